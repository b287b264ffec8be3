import java.util.Random;

/** Runs of calls, made by a fixed seed, on the program and on the model: every answer must be the same. */
final class RandomRunsTest {
    private static final int RUNS = 400;
    private static final int CALLS = 120;
    private static final int MOST_CALLS = 512;
    private static final int LONGEST_STEP = 33;

    private final Random random;
    private final int size;
    private final EarthHauls x = new EarthHauls();
    private final Model model = new Model();
    private final StringBuilder told = new StringBuilder();
    private int calls = 0;

    private RandomRunsTest(long seed) {
        random = new Random(seed);
        size = random.nextInt(4);
    }

    public static void main(String[] args) {
        int runs = args.length > 0 ? Integer.parseInt(args[0]) : RUNS;
        for (int run = 0; run < runs && !Check.isWrong(); run++) {
            new RandomRunsTest(run).play(run);
        }
        Check.end();
    }

    private void play(int run) {
        int most = run % 10 == 0 ? MOST_CALLS : CALLS;
        while (calls + LONGEST_STEP <= most && !Check.isWrong()) {
            step();
        }
        while (calls < most && !Check.isWrong()) {
            callState();
        }
        if (Check.isWrong()) {
            System.out.println("run " + run + " was:" + told);
        }
    }

    private void same(String what, Check.Call got, Check.Call want) {
        calls++;
        String answer = Check.told(got);
        told.append("\n  ").append(what).append(" = ").append(answer);
        Check.dueSame(what, answer, Check.told(want));
    }

    private void sameDeed(String what, Check.Deed got, Check.Deed want) {
        same(what, () -> {
            got.run();
            return 0;
        }, () -> {
            want.run();
            return 0;
        });
    }

    private boolean rarely() {
        return random.nextInt(25) == 0;
    }

    private int among(int low, int high) {
        if (rarely()) {
            int[] edges = {low - 1, low, high, high + 1, Integer.MAX_VALUE, Integer.MIN_VALUE, -1, 0};
            return edges[random.nextInt(edges.length)];
        }
        return low + random.nextInt(high - low + 1);
    }

    private int height() {
        int most = size == 0 ? 1 : size == 1 ? 3 : 100;
        return random.nextInt(40) == 0 ? among(-100, 100) : random.nextInt(2 * most + 1) - most;
    }

    private int twoWidths() {
        int most = size < 2 ? 3 : 50;
        return rarely() ? among(0, 5200) : 100 * (1 + random.nextInt(most)) + 1 + random.nextInt(most);
    }

    private int yardLitres() {
        int[] mosts = {30, 300, 3000000, 100000000};
        return rarely() ? among(0, 100000000) : random.nextInt(mosts[size] + 1);
    }

    private void step() {
        int what = random.nextInt(32);
        if (model.count(0) < 5 && what < 12 || what == 0) {
            callStation();
        } else if (what < 14) {
            callChange();
        } else if (what < 20) {
            callState();
        } else if (what < 28) {
            callPlan();
        } else {
            callOwnPlan();
        }
    }

    private void callStation() {
        int most = size == 3 ? 100 : 4;
        int length = rarely() ? among(0, 100) : model.count(0) == 0 ? 0 : 1 + random.nextInt(most);
        int left = height();
        int middle = height();
        int right = height();
        int both = twoWidths();
        same("station(" + length + ", " + left + ", " + middle + ", " + right + ", " + both + ")",
                () -> x.station(length, left, middle, right, both),
                () -> model.station(length, left, middle, right, both));
    }

    private void callChange() {
        int kind = random.nextInt(20);
        if (kind == 0 && random.nextInt(4) == 0) {
            sameDeed("clear()", x::clear, model::clear);
        } else if (kind < 3) {
            int v = among(500, 1000);
            sameDeed("set(0, " + v + ")", () -> x.set(0, v), () -> model.set(0, v));
        } else if (kind < 6) {
            int what = among(0, 1);
            int v = random.nextInt(3) == 0 ? among(0, 100) : random.nextInt(3);
            sameDeed("set(" + what + ", " + v + ")", () -> x.set(what, v), () -> model.set(what, v));
        } else if (kind < 9) {
            int k = among(0, 2);
            boolean closed = random.nextInt(3) == 0;
            sameDeed("border(" + k + ", " + closed + ")", () -> x.border(k, closed), () -> model.border(k, closed));
        } else {
            callBeside();
        }
    }

    private void callBeside() {
        int which = among(0, 2);
        int span = among(0, Math.max(0, model.count(0) - 2));
        int litres = yardLitres();
        int price = size == 3 ? among(0, 1000) : among(0, 4);
        sameDeed("beside(" + which + ", " + span + ", " + litres + ", " + price + ")",
                () -> x.beside(which, span, litres, price), () -> model.beside(which, span, litres, price));
    }

    private void callState() {
        int a = among(0, 4);
        int b = among(0, 3);
        switch (random.nextInt(6)) {
            case 0:
                same("area(" + a + ", " + b + ")", () -> x.area(a, b), () -> model.area(a, b));
                break;
            case 1:
                same("litres(" + a + ", " + b + ")", () -> x.litres(a, b), () -> model.litres(a, b));
                break;
            case 2:
                same("curve(" + a + ")", () -> x.curve(a), () -> model.curve(a));
                break;
            case 3:
                same("balance(" + b + ")", () -> x.balance(b), () -> model.balance(b));
                break;
            case 4:
                int source = among(0, 5);
                same("cost(" + source + ", " + a + ")", () -> x.cost(source, a), () -> model.cost(source, a));
                break;
            default:
                same("count(" + a + ")", () -> x.count(a), () -> model.count(a));
        }
    }

    private void callPlan() {
        int source = among(0, 5);
        int sink = among(0, 4);
        int span = among(0, 3);
        boolean cut = random.nextBoolean();
        switch (random.nextInt(4)) {
            case 0:
                same("solve()", x::solve, model::solve);
                break;
            case 1:
            case 2:
                same("hauled(" + source + ", " + sink + ")",
                        () -> x.hauled(source, sink), () -> model.hauled(source, sink));
                break;
            default:
                same("more(" + span + ", " + cut + ")", () -> x.more(span, cut), () -> model.more(span, cut));
        }
    }

    private void callOwnPlan() {
        int kind = random.nextInt(8);
        if (kind == 0) {
            int source = among(0, 5);
            int sink = among(0, 4);
            int litres = yardLitres();
            sameLay(source, sink, litres);
        } else if (kind < 3) {
            layThePlan();
        } else if (kind < 5) {
            same("judge()", x::judge, model::judge);
        } else if (kind == 5) {
            same("worth()", x::worth, model::worth);
        } else {
            same("excess()", x::excess, model::excess);
        }
    }

    private void sameLay(int source, int sink, int litres) {
        sameDeed("lay(" + source + ", " + sink + ", " + litres + ")",
                () -> x.lay(source, sink, litres), () -> model.lay(source, sink, litres));
    }

    /** Lays what the plan says, at times turned about four hauls, so that one's own plan often is one. */
    private void layThePlan() {
        int[][] own = new int[6][5];
        for (int source = 0; source < 6; source++) {
            for (int sink = 0; sink < 5; sink++) {
                own[source][sink] = model.hauled(source, sink);
            }
        }
        for (int i = random.nextInt(4); i > 0; i--) {
            int a = random.nextInt(6);
            int b = random.nextInt(6);
            int c = random.nextInt(5);
            int d = random.nextInt(5);
            if (a != b && c != d) {
                int litres = Math.min(own[a][c], own[b][d]);
                own[a][c] -= litres;
                own[b][d] -= litres;
                own[a][d] += litres;
                own[b][c] += litres;
            }
        }
        for (int source = 0; source < 6; source++) {
            for (int sink = 0; sink < 5; sink++) {
                sameLay(source, sink, own[source][sink]);
            }
        }
        same("judge()", x::judge, model::judge);
        same("worth()", x::worth, model::worth);
        same("excess()", x::excess, model::excess);
    }
}
