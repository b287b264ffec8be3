import java.math.BigInteger;

/**
 * The document told once more, by other means than the program's: fractions of BigInteger,
 * and a plan that begins anyhow and is mended along cycles until none makes it better.
 */
final class Model {
    private static final int OUTSIDE = 11;
    private static final int NODES = 12;

    private int stations;
    private int shrink;
    private int rate;
    private final int[][] heights = new int[5][];
    private final int[][] widths = new int[5][];
    private final int[] lengths = new int[4];
    private final boolean[] closed = new boolean[3];
    /** Span, litres and price of each pit and of the dump; null when it is not there. */
    private final int[][] beside = new int[3][];
    private final int[][] laid = new int[6][5];

    Model() {
        clear();
    }

    void clear() {
        stations = 0;
        shrink = 1000;
        rate = 1;
        for (int k = 0; k < 3; k++) {
            closed[k] = false;
            beside[k] = null;
        }
        for (int[] row : laid) {
            java.util.Arrays.fill(row, 0);
        }
    }

    int station(int length, int left, int middle, int right, int both) {
        boolean fits = stations == 0 ? length == 0 : 1 <= length && length <= 100;
        for (int h : new int[] {left, middle, right}) {
            fits &= -100 <= h && h <= 100;
        }
        boolean widthsFit = false;
        for (int first = 1; first <= 50; first++) {
            for (int second = 1; second <= 50; second++) {
                widthsFit |= both == 100 * first + second;
            }
        }
        if (!fits || !widthsFit) {
            throw new IllegalArgumentException();
        }
        if (stations == 5) {
            throw new IllegalStateException();
        }
        heights[stations] = new int[] {left, middle, right};
        widths[stations] = new int[] {both / 100, both % 100};
        if (stations > 0) {
            lengths[stations - 1] = length;
        }
        return stations++;
    }

    void set(int what, int v) {
        if (what == 0 && 500 <= v && v <= 1000) {
            shrink = v;
        } else if (what == 1 && 0 <= v && v <= 100) {
            rate = v;
        } else {
            throw new IllegalArgumentException();
        }
    }

    void border(int k, boolean close) {
        if (k < 0 || k > stations - 3) {
            throw new IndexOutOfBoundsException();
        }
        if (closed[k] == close) {
            throw new IllegalStateException();
        }
        closed[k] = close;
    }

    void beside(int which, int span, int litres, int price) {
        if (which < 0 || which > 2 || !spanThere(span)) {
            throw new IndexOutOfBoundsException();
        }
        if (litres < 0 || litres > 100000000 || price < 0 || price > 1000) {
            throw new IllegalArgumentException();
        }
        beside[which] = new int[] {span, litres, price};
    }

    private boolean spanThere(int span) {
        return span >= 0 && span <= stations - 2;
    }

    /** Twice the area over 0, of heights turned over by sign, as upper and lower number. */
    private BigInteger[] twice(int station, int sign) {
        BigInteger upper = BigInteger.ZERO;
        BigInteger lower = BigInteger.ONE;
        for (int part = 0; part < 2; part++) {
            int a = sign * heights[station][part];
            int b = sign * heights[station][part + 1];
            int w = widths[station][part];
            BigInteger u = BigInteger.ZERO;
            BigInteger l = BigInteger.ONE;
            if (a >= 0 && b >= 0) {
                u = BigInteger.valueOf((long) (a + b) * w);
            } else if (a > 0) {
                u = BigInteger.valueOf((long) a * a * w);
                l = BigInteger.valueOf(a - b);
            } else if (b > 0) {
                u = BigInteger.valueOf((long) b * b * w);
                l = BigInteger.valueOf(b - a);
            }
            upper = upper.multiply(l).add(u.multiply(lower));
            lower = lower.multiply(l);
        }
        BigInteger common = upper.gcd(lower);
        return new BigInteger[] {upper.divide(common), lower.divide(common)};
    }

    long area(int station, int what) {
        if (station < 0 || station >= stations) {
            throw new IndexOutOfBoundsException();
        }
        if (what < 0 || what > 3) {
            throw new IllegalArgumentException();
        }
        return twice(station, what < 2 ? 1 : -1)[what % 2].longValueExact();
    }

    private int rounded(int span, int sign) {
        BigInteger[] a = twice(span, sign);
        BigInteger[] b = twice(span + 1, sign);
        BigInteger upper = a[0].multiply(b[1]).add(b[0].multiply(a[1])).multiply(BigInteger.valueOf(10L * lengths[span]));
        BigInteger lower = a[1].multiply(b[1]).multiply(BigInteger.valueOf(4));
        BigInteger[] parts = upper.divideAndRemainder(lower);
        boolean up = parts[1].shiftLeft(1).compareTo(lower) >= 0;
        return parts[0].intValueExact() + (up ? 1 : 0);
    }

    int litres(int span, int what) {
        if (!spanThere(span)) {
            throw new IndexOutOfBoundsException();
        }
        if (what < 0 || what > 2) {
            throw new IllegalArgumentException();
        }
        int litres = rounded(span, what == 1 ? -1 : 1);
        return what == 2 ? (int) Math.floorDiv((long) litres * shrink, 1000L) : litres;
    }

    int curve(int station) {
        if (station < 0 || station >= stations) {
            throw new IndexOutOfBoundsException();
        }
        return station == 0 ? 0 : curve(station - 1) + litres(station - 1, 2) - litres(station - 1, 1);
    }

    int balance(int i) {
        java.util.List<Integer> found = new java.util.ArrayList<>();
        for (int s = 0; s < stations; s++) {
            if (curve(s) == 0 || s > 0 && Integer.signum(curve(s)) * Integer.signum(curve(s - 1)) < 0) {
                found.add(s);
            }
        }
        return i >= 0 && i < found.size() ? found.get(i) : -1;
    }

    private static void pair(int source, int sink) {
        if (source < 0 || source > 5 || sink < 0 || sink > 4) {
            throw new IndexOutOfBoundsException();
        }
    }

    private int place(int span, int[] yard, boolean isYard) {
        if (isYard) {
            return yard == null ? -1 : yard[0];
        }
        return spanThere(span) ? span : -1;
    }

    int cost(int source, int sink) {
        pair(source, sink);
        int a = place(source, source > 3 ? beside[source - 4] : null, source > 3);
        int b = place(sink, sink == 4 ? beside[2] : null, sink == 4);
        if (a < 0 || b < 0 || source > 3 && sink == 4) {
            return -1;
        }
        int way = 0;
        int step = a < b ? 1 : -1;
        for (int s = a; s != b; s += step) {
            if (closed[step > 0 ? s : s - 1]) {
                return -1;
            }
            way += lengths[s] + lengths[s + step];
        }
        int price = source > 3 ? beside[source - 4][2] : sink == 4 ? beside[2][2] : 0;
        return rate * way + price;
    }

    private int[] placed() {
        int[] placed = new int[4];
        for (int s = 0; s < stations - 1; s++) {
            placed[s] = litres(s, 2);
        }
        return placed;
    }

    private int[] filled() {
        int[] filled = new int[4];
        for (int s = 0; s < stations - 1; s++) {
            filled[s] = litres(s, 1);
        }
        return filled;
    }

    /** The plan for these litres, or null. */
    private int[][] plan(int[] placed, int[] filled) {
        int[][] x = anyPlan(placed, filled);
        if (x == null) {
            return null;
        }
        for (int turn = 0; turn < 100000; turn++) {
            if (!mend(x)) {
                return x;
            }
        }
        throw new AssertionError("the plan of the model does not settle");
    }

    private int limit(int which) {
        return beside[which] == null ? 0 : beside[which][1];
    }

    /** Fills from the left: spans to spans, what is left to the dump, what is missing from the pits. */
    private int[][] anyPlan(int[] placed, int[] filled) {
        int[][] x = new int[6][5];
        int[] give = {placed[0], placed[1], placed[2], placed[3], limit(0), limit(1)};
        int[] take = {filled[0], filled[1], filled[2], filled[3], limit(2)};
        for (int round = 0; round < 3; round++) {
            for (int a = round == 2 ? 4 : 0; a < (round == 2 ? 6 : 4); a++) {
                for (int b = round == 1 ? 4 : 0; b < (round == 1 ? 5 : 4); b++) {
                    if (cost(a, b) >= 0) {
                        int litres = Math.min(give[a], take[b]);
                        x[a][b] += litres;
                        give[a] -= litres;
                        take[b] -= litres;
                    }
                }
            }
        }
        for (int s = 0; s < 4; s++) {
            if (give[s] > 0 || take[s] > 0) {
                return null;
            }
        }
        return x;
    }

    private static int sum(int[][] x, int source, int sink) {
        int sum = 0;
        for (int a = 0; a < 6; a++) {
            for (int b = 0; b < 5; b++) {
                if ((source < 0 || a == source) && (sink < 0 || b == sink)) {
                    sum += x[a][b];
                }
            }
        }
        return sum;
    }

    /** How many litres more may go from node to node: sources 0 .. 5, sinks 6 .. 10, the outside. */
    private int room(int[][] x, int from, int to) {
        if (from < 6 && to >= 6 && to < OUTSIDE) {
            return cost(from, to - 6) >= 0 ? Integer.MAX_VALUE / 2 : 0;
        }
        if (to < 6 && from >= 6 && from < OUTSIDE) {
            return x[to][from - 6];
        }
        if (from == OUTSIDE && (to == 4 || to == 5)) {
            return limit(to - 4) - sum(x, to, -1);
        }
        if (to == OUTSIDE && (from == 4 || from == 5)) {
            return sum(x, from, -1);
        }
        if (from == 10 && to == OUTSIDE) {
            return limit(2) - sum(x, -1, 4);
        }
        if (from == OUTSIDE && to == 10) {
            return sum(x, -1, 4);
        }
        return 0;
    }

    private long weight(int from, int to) {
        if (from < 6 && to >= 6 && to < OUTSIDE) {
            return cost(from, to - 6) * (1L << 31) + (1L << (5 * from + to - 6));
        }
        if (to < 6 && from >= 6 && from < OUTSIDE) {
            return -weight(to, from);
        }
        return 0;
    }

    /** Mends the plan along one cycle of less than no weight; false when there is none. */
    private boolean mend(int[][] x) {
        long[] distance = new long[NODES];
        int[] from = new int[NODES];
        java.util.Arrays.fill(from, -1);
        int touched = -1;
        for (int round = 0; round < NODES; round++) {
            touched = -1;
            for (int a = 0; a < NODES; a++) {
                for (int b = 0; b < NODES; b++) {
                    if (a != b && room(x, a, b) > 0 && distance[a] + weight(a, b) < distance[b]) {
                        distance[b] = distance[a] + weight(a, b);
                        from[b] = a;
                        touched = b;
                    }
                }
            }
        }
        if (touched < 0) {
            return false;
        }
        for (int step = 0; step < NODES; step++) {
            touched = from[touched];
        }
        turn(x, from, touched);
        return true;
    }

    private void turn(int[][] x, int[] from, int start) {
        int least = Integer.MAX_VALUE;
        int node = start;
        do {
            least = Math.min(least, room(x, from[node], node));
            node = from[node];
        } while (node != start);
        do {
            int before = from[node];
            if (before < 6 && node >= 6 && node < OUTSIDE) {
                x[before][node - 6] += least;
            } else if (node < 6 && before >= 6 && before < OUTSIDE) {
                x[node][before - 6] -= least;
            }
            node = before;
        } while (node != start);
    }

    private long price(int[][] x) {
        long sum = 0;
        for (int a = 0; a < 6; a++) {
            for (int b = 0; b < 5; b++) {
                if (cost(a, b) >= 0) {
                    sum += (long) cost(a, b) * x[a][b];
                }
            }
        }
        return sum;
    }

    long solve() {
        int[][] x = plan(placed(), filled());
        return x == null ? -1 : price(x);
    }

    int hauled(int source, int sink) {
        pair(source, sink);
        int[][] x = plan(placed(), filled());
        return x == null ? 0 : x[source][sink];
    }

    long more(int span, boolean cut) {
        if (!spanThere(span)) {
            throw new IndexOutOfBoundsException();
        }
        int[] placed = placed();
        int[] filled = filled();
        int[][] now = plan(placed, filled);
        (cut ? placed : filled)[span]++;
        int[][] then = plan(placed, filled);
        return now == null || then == null ? -1 : price(then) - price(now);
    }

    void lay(int source, int sink, int litres) {
        pair(source, sink);
        if (litres < 0 || litres > 100000000) {
            throw new IllegalArgumentException();
        }
        laid[source][sink] = litres;
    }

    int judge() {
        int[] placed = placed();
        int[] filled = filled();
        for (int a = 0; a < 6; a++) {
            int sum = sum(laid, a, -1);
            if (a < 4 ? sum != placed[a] : sum > limit(a - 4)) {
                return a;
            }
        }
        for (int b = 0; b < 5; b++) {
            int sum = sum(laid, -1, b);
            if (b < 4 ? sum != filled[b] : sum > limit(2)) {
                return 6 + b;
            }
        }
        for (int haul = 0; haul < 30; haul++) {
            if (laid[haul / 5][haul % 5] > 0 && cost(haul / 5, haul % 5) < 0) {
                return 100 + haul;
            }
        }
        return -1;
    }

    long worth() {
        return price(laid);
    }

    long excess() {
        return judge() == -1 ? worth() - solve() : -1;
    }

    int count(int what) {
        int count = 0;
        switch (what) {
            case 0:
                return stations;
            case 1:
                for (int k = 0; k <= stations - 3; k++) {
                    count += closed[k] ? 0 : 1;
                }
                return count;
            case 2:
                return (beside[0] == null ? 0 : 1) + (beside[1] == null ? 0 : 1);
            case 3:
                return beside[2] == null ? 0 : 1;
            case 4:
                for (int haul = 0; haul < 30; haul++) {
                    count += cost(haul / 5, haul % 5) < 0 ? 0 : 1;
                }
                return count;
            default:
                throw new IllegalArgumentException();
        }
    }
}
