import java.util.Arrays;

/**
 * Earthwork for a road: areas of cut and fill at its stations, litres of its spans,
 * and the one plan of least cost that hauls what is placed to where fill is wanted.
 */
public final class EarthHauls {
    public static final int NONE = -1;

    private static final int MOST_STATIONS = 5;
    private static final int MOST_SPANS = 4;
    private static final int MOST_LENGTH = 100;
    private static final int MOST_HEIGHT = 100;
    private static final int MOST_WIDTH = 50;
    private static final int LEAST_SHRINK = 500;
    private static final int MOST_SHRINK = 1000;
    private static final int MOST_RATE = 100;
    private static final int MOST_LITRES = 100000000;
    private static final int MOST_PRICE = 1000;

    private static final int PITS = 2;
    private static final int YARDS = 3;
    private static final int DUMP = 2;
    private static final int SOURCES = 6;
    private static final int SINKS = 5;
    private static final int DUMP_SINK = 4;
    private static final int FIRST_HAUL_JUDGED = 100;

    private final Section[] sections = new Section[MOST_STATIONS];
    private final int[] lengths = new int[MOST_SPANS];
    private final boolean[] closedBorders = new boolean[MOST_SPANS - 1];
    private final Yard[] yards = new Yard[YARDS];
    private final int[] laid = new int[SOURCES * SINKS];
    private final Network network = new Network();
    private int stations;
    private int shrink;
    private int rate;
    private boolean planned;
    private long planCost;

    public EarthHauls() {
        for (int i = 0; i < MOST_STATIONS; i++) {
            sections[i] = new Section();
        }
        for (int i = 0; i < YARDS; i++) {
            yards[i] = new Yard();
        }
        begin();
    }

    public void clear() {
        begin();
    }

    public int station(int length, int left, int middle, int right, int widths)
            throws IllegalArgumentException, IllegalStateException {
        int first = widths / 100;
        int second = widths % 100;
        if (!isLength(length) || !isHeight(left) || !isHeight(middle) || !isHeight(right)
                || !isWidth(first) || !isWidth(second)) {
            throw new IllegalArgumentException();
        }
        if (stations >= MOST_STATIONS) {
            throw new IllegalStateException();
        }
        sections[stations].measure(left, middle, right, first, second);
        if (stations > 0) {
            lengths[stations - 1] = length;
        }
        stations++;
        planned = false;
        return stations - 1;
    }

    public void set(int what, int v) throws IllegalArgumentException {
        if (what == 0 && v >= LEAST_SHRINK && v <= MOST_SHRINK) {
            shrink = v;
        } else if (what == 1 && v >= 0 && v <= MOST_RATE) {
            rate = v;
        } else {
            throw new IllegalArgumentException();
        }
        planned = false;
    }

    public void border(int k, boolean closed) throws IndexOutOfBoundsException, IllegalStateException {
        if (k < 0 || k >= borders()) {
            throw new IndexOutOfBoundsException();
        }
        if (closedBorders[k] == closed) {
            throw new IllegalStateException();
        }
        closedBorders[k] = closed;
        planned = false;
    }

    public void beside(int which, int span, int litres, int price)
            throws IndexOutOfBoundsException, IllegalArgumentException {
        if (which < 0 || which >= YARDS || !isSpan(span)) {
            throw new IndexOutOfBoundsException();
        }
        if (!isLitres(litres) || price < 0 || price > MOST_PRICE) {
            throw new IllegalArgumentException();
        }
        yards[which].place(span, litres, price);
        planned = false;
    }

    public long area(int station, int what) throws IndexOutOfBoundsException, IllegalArgumentException {
        if (!isStation(station)) {
            throw new IndexOutOfBoundsException();
        }
        switch (what) {
            case 0:
                return sections[station].cut.upper;
            case 1:
                return sections[station].cut.lower;
            case 2:
                return sections[station].fill.upper;
            case 3:
                return sections[station].fill.lower;
            default:
                throw new IllegalArgumentException();
        }
    }

    public int litres(int span, int what) throws IndexOutOfBoundsException, IllegalArgumentException {
        if (!isSpan(span)) {
            throw new IndexOutOfBoundsException();
        }
        switch (what) {
            case 0:
                return cutOf(span);
            case 1:
                return fillOf(span);
            case 2:
                return placedOf(span);
            default:
                throw new IllegalArgumentException();
        }
    }

    public int curve(int station) throws IndexOutOfBoundsException {
        if (!isStation(station)) {
            throw new IndexOutOfBoundsException();
        }
        int sum = 0;
        for (int span = 0; span < station; span++) {
            sum += placedOf(span) - fillOf(span);
        }
        return sum;
    }

    public int balance(int i) {
        int found = 0;
        int before = 0;
        for (int station = 0; station < stations; station++) {
            int now = station == 0 ? 0 : before + placedOf(station - 1) - fillOf(station - 1);
            if (now == 0 || now < 0 && before > 0 || now > 0 && before < 0) {
                if (found == i) {
                    return station;
                }
                found++;
            }
            before = now;
        }
        return NONE;
    }

    public int cost(int source, int sink) throws IndexOutOfBoundsException {
        if (!isPair(source, sink)) {
            throw new IndexOutOfBoundsException();
        }
        return unitCost(source, sink);
    }

    public long solve() {
        makePlan();
        return planCost;
    }

    public int hauled(int source, int sink) throws IndexOutOfBoundsException {
        if (!isPair(source, sink)) {
            throw new IndexOutOfBoundsException();
        }
        makePlan();
        return planCost == NONE ? 0 : network.hauledBy(source, sink);
    }

    public long more(int span, boolean cut) throws IndexOutOfBoundsException {
        if (!isSpan(span)) {
            throw new IndexOutOfBoundsException();
        }
        makePlan();
        if (planCost == NONE) {
            return NONE;
        }
        return cut ? network.costOfMorePlaced(span) : network.costOfMoreFill(span);
    }

    public void lay(int source, int sink, int litres) throws IndexOutOfBoundsException, IllegalArgumentException {
        if (!isPair(source, sink)) {
            throw new IndexOutOfBoundsException();
        }
        if (!isLitres(litres)) {
            throw new IllegalArgumentException();
        }
        laid[pairOf(source, sink)] = litres;
    }

    public int judge() {
        for (int source = 0; source < SOURCES; source++) {
            if (!isSourceMet(source)) {
                return source;
            }
        }
        for (int sink = 0; sink < SINKS; sink++) {
            if (!isSinkMet(sink)) {
                return SOURCES + sink;
            }
        }
        return firstImpossibleLaid();
    }

    public long worth() {
        long sum = 0;
        for (int source = 0; source < SOURCES; source++) {
            for (int sink = 0; sink < SINKS; sink++) {
                int unit = unitCost(source, sink);
                if (unit != NONE) {
                    sum += (long) unit * laid[pairOf(source, sink)];
                }
            }
        }
        return sum;
    }

    public long excess() {
        if (judge() != NONE) {
            return NONE;
        }
        makePlan();
        return worth() - planCost;
    }

    public int count(int what) throws IllegalArgumentException {
        switch (what) {
            case 0:
                return stations;
            case 1:
                return openBorders();
            case 2:
                return yardsThere(0, PITS);
            case 3:
                return yardsThere(DUMP, YARDS);
            case 4:
                return possibleHauls();
            default:
                throw new IllegalArgumentException();
        }
    }

    private void begin() {
        stations = 0;
        shrink = MOST_SHRINK;
        rate = 1;
        planned = false;
        planCost = NONE;
        for (int k = 0; k < closedBorders.length; k++) {
            closedBorders[k] = false;
        }
        for (int i = 0; i < YARDS; i++) {
            yards[i].remove();
        }
        Arrays.fill(laid, 0);
    }

    private boolean isLength(int length) {
        return stations == 0 ? length == 0 : length >= 1 && length <= MOST_LENGTH;
    }

    private static boolean isHeight(int height) {
        return height >= -MOST_HEIGHT && height <= MOST_HEIGHT;
    }

    private static boolean isWidth(int width) {
        return width >= 1 && width <= MOST_WIDTH;
    }

    private static boolean isLitres(int litres) {
        return litres >= 0 && litres <= MOST_LITRES;
    }

    private boolean isStation(int station) {
        return station >= 0 && station < stations;
    }

    private boolean isSpan(int span) {
        return span >= 0 && span < spans();
    }

    private static boolean isPair(int source, int sink) {
        return source >= 0 && source < SOURCES && sink >= 0 && sink < SINKS;
    }

    private static int pairOf(int source, int sink) {
        return SINKS * source + sink;
    }

    private int spans() {
        return stations > 0 ? stations - 1 : 0;
    }

    private int borders() {
        return spans() > 0 ? spans() - 1 : 0;
    }

    private int openBorders() {
        int open = 0;
        for (int k = 0; k < borders(); k++) {
            if (!closedBorders[k]) {
                open++;
            }
        }
        return open;
    }

    private int yardsThere(int first, int end) {
        int there = 0;
        for (int i = first; i < end; i++) {
            if (yards[i].isThere()) {
                there++;
            }
        }
        return there;
    }

    private int possibleHauls() {
        int possible = 0;
        for (int source = 0; source < SOURCES; source++) {
            for (int sink = 0; sink < SINKS; sink++) {
                if (unitCost(source, sink) != NONE) {
                    possible++;
                }
            }
        }
        return possible;
    }

    private int cutOf(int span) {
        return roundedLitres(sections[span].cut, sections[span + 1].cut, lengths[span]);
    }

    private int fillOf(int span) {
        return roundedLitres(sections[span].fill, sections[span + 1].fill, lengths[span]);
    }

    private int placedOf(int span) {
        return (int) ((long) cutOf(span) * shrink / 1000);
    }

    // Each fraction is twice an area, and half the sum of the areas counts: 10 litres / 4 = 5 / 2.
    private static int roundedLitres(Fraction one, Fraction other, int length) {
        long upper = (one.upper * other.lower + other.upper * one.lower) * length * 5;
        long lower = one.lower * other.lower;
        return (int) ((upper + lower) / (2 * lower));
    }

    private int spanOfSource(int source) {
        if (source >= MOST_SPANS) {
            return yards[source - MOST_SPANS].span;
        }
        return isSpan(source) ? source : NONE;
    }

    private int spanOfSink(int sink) {
        if (sink == DUMP_SINK) {
            return yards[DUMP].span;
        }
        return isSpan(sink) ? sink : NONE;
    }

    private int unitCost(int source, int sink) {
        boolean fromPit = source >= MOST_SPANS;
        boolean toDump = sink == DUMP_SINK;
        int from = spanOfSource(source);
        int to = spanOfSink(sink);
        if (fromPit && toDump || from == NONE || to == NONE || !isOpenBetween(from, to)) {
            return NONE;
        }
        int price = fromPit ? yards[source - MOST_SPANS].price : toDump ? yards[DUMP].price : 0;
        return rate * wayBetween(from, to) + price;
    }

    private boolean isOpenBetween(int from, int to) {
        for (int k = Math.min(from, to); k < Math.max(from, to); k++) {
            if (closedBorders[k]) {
                return false;
            }
        }
        return true;
    }

    private int wayBetween(int from, int to) {
        if (from == to) {
            return 0;
        }
        int way = lengths[from] + lengths[to];
        for (int span = Math.min(from, to) + 1; span < Math.max(from, to); span++) {
            way += 2 * lengths[span];
        }
        return way;
    }

    private void makePlan() {
        if (planned) {
            return;
        }
        network.empty();
        for (int source = 0; source < SOURCES; source++) {
            for (int sink = 0; sink < SINKS; sink++) {
                int unit = unitCost(source, sink);
                if (unit != NONE) {
                    network.allowHaul(source, sink, unit);
                }
            }
        }
        for (int pit = 0; pit < PITS; pit++) {
            network.allowPit(pit, yards[pit].litres);
        }
        network.allowDump(yards[DUMP].litres);
        for (int span = 0; span < spans(); span++) {
            network.addPlaced(span, placedOf(span));
        }
        for (int span = 0; span < spans(); span++) {
            network.addFill(span, fillOf(span));
        }
        planCost = network.isShort() ? NONE : network.sumOfCosts();
        planned = true;
    }

    private boolean isSourceMet(int source) {
        int sum = 0;
        for (int sink = 0; sink < SINKS; sink++) {
            sum += laid[pairOf(source, sink)];
        }
        if (source >= MOST_SPANS) {
            return sum <= yards[source - MOST_SPANS].litres;
        }
        return sum == (isSpan(source) ? placedOf(source) : 0);
    }

    private boolean isSinkMet(int sink) {
        int sum = 0;
        for (int source = 0; source < SOURCES; source++) {
            sum += laid[pairOf(source, sink)];
        }
        if (sink == DUMP_SINK) {
            return sum <= yards[DUMP].litres;
        }
        return sum == (isSpan(sink) ? fillOf(sink) : 0);
    }

    private int firstImpossibleLaid() {
        for (int source = 0; source < SOURCES; source++) {
            for (int sink = 0; sink < SINKS; sink++) {
                int pair = pairOf(source, sink);
                if (laid[pair] > 0 && unitCost(source, sink) == NONE) {
                    return FIRST_HAUL_JUDGED + pair;
                }
            }
        }
        return NONE;
    }

    /** A number that is not below 0, in least terms. */
    private static final class Fraction {
        long upper = 0;
        long lower = 1;

        void setToZero() {
            upper = 0;
            lower = 1;
        }

        void add(long otherUpper, long otherLower) {
            long sumUpper = upper * otherLower + otherUpper * lower;
            long sumLower = lower * otherLower;
            long common = commonDivisor(sumUpper, sumLower);
            if (common > 0) {
                upper = sumUpper / common;
                lower = sumLower / common;
            }
        }

        // Each two steps at least halve a number, so 130 are enough for any two longs.
        private static long commonDivisor(long one, long other) {
            long a = one;
            long b = other;
            for (int step = 0; step < 130 && b != 0; step++) {
                long rest = a % b;
                a = b;
                b = rest;
            }
            return a;
        }
    }

    /** Twice the areas of cut and of fill of one station. */
    private static final class Section {
        final Fraction cut = new Fraction();
        final Fraction fill = new Fraction();

        void measure(int left, int middle, int right, int first, int second) {
            cut.setToZero();
            addHigher(cut, left, middle, first);
            addHigher(cut, middle, right, second);
            // Fill is what would be cut if the ground were turned over.
            fill.setToZero();
            addHigher(fill, -left, -middle, first);
            addHigher(fill, -middle, -right, second);
        }

        private static void addHigher(Fraction sum, int one, int other, int width) {
            int high = Math.max(one, other);
            int low = Math.min(one, other);
            if (high > 0 && low >= 0) {
                sum.add((long) (high + low) * width, 1);
            } else if (high > 0) {
                // The ground crosses 0: a triangle is left, whose width is width * high / (high - low).
                sum.add((long) high * high * width, high - low);
            }
        }
    }

    /** A pit or the dump; while it is not there, it has no span and no litres. */
    private static final class Yard {
        int span = NONE;
        int litres = 0;
        int price = 0;

        void remove() {
            place(NONE, 0, 0);
        }

        void place(int newSpan, int newLitres, int newPrice) {
            span = newSpan;
            litres = newLitres;
            price = newPrice;
        }

        boolean isThere() {
            return span != NONE;
        }
    }

    /**
     * Litres that flow from sources to sinks and to and from the outside, always at least weight.
     * Each litre more takes the lightest way that is left, which may also turn earlier litres back.
     */
    private static final class Network {
        private static final int OUTSIDE = SOURCES + SINKS;
        private static final int NODES = OUTSIDE + 1;
        private static final int SHORTAGE_EDGES = 4 * MOST_SPANS;
        private static final int MOST_EDGES = 2 * (SOURCES * SINKS + YARDS) + SHORTAGE_EDGES;
        private static final int UNLIMITED = 1000000000;
        private static final int MOST_TURNS = 1000000;

        // A weight is 2^32 times the cost, plus the document's power of 2 that settles between equal costs;
        // no way goes by a haul twice, so these powers never sum up to 2^30 on it, nor the whole to 2^52.
        private static final int COST_SHIFT = 32;
        private static final long HALF_A_COST = 1L << (COST_SHIFT - 1);
        private static final long WEIGHT_OF_SHORTAGE = 1L << 54;
        private static final long LEAST_SHORT = 1L << 53;
        private static final long FAR = 1L << 62;

        // Edges come in pairs: the odd one turns back what flows on the even one before it.
        private final int[] tail = new int[MOST_EDGES];
        private final int[] head = new int[MOST_EDGES];
        private final int[] room = new int[MOST_EDGES];
        private final long[] weight = new long[MOST_EDGES];
        private final int[] haulEdge = new int[SOURCES * SINKS];
        private final long[] distance = new long[NODES];
        private final int[] edgeTo = new int[NODES];
        private int edges = 0;

        // Shortages let every litre go or come at a weight that any real way undercuts;
        // so the flow is never stuck half way, and what is short at the end tells that there is no plan.
        // They are joined first, so that isShort finds them as the first edges.
        void empty() {
            edges = 0;
            Arrays.fill(haulEdge, NONE);
            for (int span = 0; span < MOST_SPANS; span++) {
                join(span, OUTSIDE, UNLIMITED, WEIGHT_OF_SHORTAGE);
                join(OUTSIDE, SOURCES + span, UNLIMITED, WEIGHT_OF_SHORTAGE);
            }
        }

        void allowHaul(int source, int sink, int unit) {
            int pair = pairOf(source, sink);
            haulEdge[pair] = edges;
            join(source, SOURCES + sink, UNLIMITED, ((long) unit << COST_SHIFT) + (1L << pair));
        }

        void allowPit(int pit, int litres) {
            join(OUTSIDE, MOST_SPANS + pit, litres, 0);
        }

        void allowDump(int litres) {
            join(SOURCES + DUMP_SINK, OUTSIDE, litres, 0);
        }

        void addPlaced(int span, int litres) {
            push(span, OUTSIDE, litres);
        }

        void addFill(int span, int litres) {
            push(OUTSIDE, SOURCES + span, litres);
        }

        boolean isShort() {
            for (int edge = 0; edge < SHORTAGE_EDGES; edge += 2) {
                if (room[edge + 1] > 0) {
                    return true;
                }
            }
            return false;
        }

        long sumOfCosts() {
            long sum = 0;
            for (int pair = 0; pair < haulEdge.length; pair++) {
                int edge = haulEdge[pair];
                if (edge != NONE) {
                    sum += (weight[edge] >> COST_SHIFT) * room[edge + 1];
                }
            }
            return sum;
        }

        int hauledBy(int source, int sink) {
            int edge = haulEdge[pairOf(source, sink)];
            return edge == NONE ? 0 : room[edge + 1];
        }

        long costOfMorePlaced(int span) {
            return costOfWay(span, OUTSIDE);
        }

        long costOfMoreFill(int span) {
            return costOfWay(OUTSIDE, SOURCES + span);
        }

        // The powers of 2 may draw the weight a little under its cost, so it is rounded and not cut off.
        private long costOfWay(int start, int end) {
            findWays(start);
            return distance[end] < LEAST_SHORT ? (distance[end] + HALF_A_COST) >> COST_SHIFT : NONE;
        }

        private void join(int from, int to, int litres, long weightOfLitre) {
            setEdge(edges, from, to, litres, weightOfLitre);
            setEdge(edges + 1, to, from, 0, -weightOfLitre);
            edges += 2;
        }

        private void setEdge(int edge, int from, int to, int litres, long weightOfLitre) {
            tail[edge] = from;
            head[edge] = to;
            room[edge] = litres;
            weight[edge] = weightOfLitre;
        }

        private void push(int start, int end, int litres) {
            int left = litres;
            for (int turn = 0; turn < MOST_TURNS && left > 0; turn++) {
                findWays(start);
                int step = roomOfWay(start, end, left);
                fillWay(start, end, step);
                left -= step;
            }
        }

        // Bellman and Ford's search: edges that turn back weigh less than 0, but no cycle does.
        private void findWays(int start) {
            Arrays.fill(distance, FAR);
            Arrays.fill(edgeTo, NONE);
            distance[start] = 0;
            boolean better = true;
            for (int round = 0; round < NODES && better; round++) {
                better = false;
                for (int edge = 0; edge < edges; edge++) {
                    if (room[edge] > 0 && distance[tail[edge]] < FAR) {
                        long through = distance[tail[edge]] + weight[edge];
                        if (through < distance[head[edge]]) {
                            distance[head[edge]] = through;
                            edgeTo[head[edge]] = edge;
                            better = true;
                        }
                    }
                }
            }
        }

        private int roomOfWay(int start, int end, int most) {
            int least = most;
            int node = end;
            for (int step = 0; step < NODES && node != start && edgeTo[node] != NONE; step++) {
                int edge = edgeTo[node];
                least = Math.min(least, room[edge]);
                node = tail[edge];
            }
            return least;
        }

        private void fillWay(int start, int end, int litres) {
            int node = end;
            for (int step = 0; step < NODES && node != start && edgeTo[node] != NONE; step++) {
                int edge = edgeTo[node];
                room[edge] -= litres;
                room[edge ^ 1] += litres;
                node = tail[edge];
            }
        }
    }
}
