import java.util.Random;

/** Roads of a few litres: all their plans are made one by one, and the least by the document's words is the plan. */
final class SmallPlansTest {
    private static final int ROADS = 1500;
    private static final int MOST_LITRES = 4;

    private final EarthHauls x = new EarthHauls();
    private final int[][] unit = new int[6][5];
    private final int[] give = new int[6];
    private final int[] take = new int[5];
    private final int[][] trial = new int[6][5];
    private final int[][] best = new int[6][5];
    private long bestCost;
    private long bestSum;

    private SmallPlansTest() {
    }

    public static void main(String[] args) {
        int plans = 0;
        int roads = 0;
        for (int seed = 0; roads < ROADS && !Check.isWrong(); seed++) {
            SmallPlansTest test = new SmallPlansTest();
            test.build(new Random(seed));
            if (test.isSmall()) {
                roads++;
                test.compare("road " + seed);
                plans += test.x.solve() == EarthHauls.NONE ? 0 : 1;
            }
        }
        Check.due("at least a third of the roads has a plan", plans * 3 >= roads ? 1 : 0, 1);
        Check.end();
    }

    private void build(Random random) {
        int stations = 2 + random.nextInt(4);
        for (int i = 0; i < stations; i++) {
            int[] h = new int[3];
            h[random.nextInt(3)] = random.nextInt(3) - 1;
            h[random.nextInt(3)] = random.nextInt(3) - 1;
            x.station(i == 0 ? 0 : 1, h[0], h[1], h[2], 101);
        }
        x.set(0, 500 + random.nextInt(501));
        x.set(1, random.nextInt(3));
        for (int k = 0; k < stations - 2; k++) {
            if (random.nextInt(6) == 0) {
                x.border(k, true);
            }
        }
        for (int which = 0; which < 3; which++) {
            if (random.nextInt(5) > 0) {
                int litres = random.nextInt(2 * MOST_LITRES + 1);
                x.beside(which, random.nextInt(stations - 1), litres, random.nextInt(3));
                if (which == 2) {
                    take[4] = litres;
                } else {
                    give[4 + which] = litres;
                }
            }
        }
        for (int span = 0; span < stations - 1; span++) {
            give[span] = x.litres(span, 2);
            take[span] = x.litres(span, 1);
        }
        for (int haul = 0; haul < 30; haul++) {
            unit[haul / 5][haul % 5] = x.cost(haul / 5, haul % 5);
        }
    }

    /** Whether all plans can be tried. */
    private boolean isSmall() {
        int sum = 0;
        for (int span = 0; span < 4; span++) {
            if (give[span] > MOST_LITRES || take[span] > MOST_LITRES) {
                return false;
            }
            sum += give[span] + take[span];
        }
        return sum > 0 && sum <= 3 * MOST_LITRES;
    }

    private void compare(String road) {
        findLeast();
        Check.due(road + ": solve()", x.solve(), bestCost);
        for (int haul = 0; haul < 30; haul++) {
            int a = haul / 5;
            int b = haul % 5;
            Check.due(road + ": hauled(" + a + ", " + b + ")", x.hauled(a, b), bestCost < 0 ? 0 : best[a][b]);
        }
        long now = bestCost;
        for (int span = 0; span < x.count(0) - 1; span++) {
            give[span]++;
            findLeast();
            Check.due(road + ": more(" + span + ", true)", x.more(span, true), change(now));
            give[span]--;
            take[span]++;
            findLeast();
            Check.due(road + ": more(" + span + ", false)", x.more(span, false), change(now));
            take[span]--;
        }
    }

    private long change(long now) {
        return now < 0 || bestCost < 0 ? EarthHauls.NONE : bestCost - now;
    }

    private void findLeast() {
        bestCost = EarthHauls.NONE;
        bestSum = 0;
        tryFrom(0, 0, 0);
    }

    private void tryFrom(int haul, long cost, long sum) {
        if (haul == 30) {
            keepIfLess(cost, sum);
            return;
        }
        int a = haul / 5;
        int b = haul % 5;
        int most = unit[a][b] < 0 ? 0 : Math.min(give[a], take[b]);
        for (int litres = 0; litres <= most; litres++) {
            trial[a][b] = litres;
            give[a] -= litres;
            take[b] -= litres;
            // The dump is a span's last sink: what is left there would never go.
            if (b < 4 || a > 3 || give[a] == 0) {
                tryFrom(haul + 1, cost + (long) litres * Math.max(0, unit[a][b]), sum + ((long) litres << haul));
            }
            give[a] += litres;
            take[b] += litres;
        }
        trial[a][b] = 0;
    }

    private void keepIfLess(long cost, long sum) {
        for (int span = 0; span < 4; span++) {
            if (take[span] > 0) {
                return;
            }
        }
        if (bestCost < 0 || cost < bestCost || cost == bestCost && sum < bestSum) {
            bestCost = cost;
            bestSum = sum;
            for (int a = 0; a < 6; a++) {
                System.arraycopy(trial[a], 0, best[a], 0, 5);
            }
        }
    }
}
