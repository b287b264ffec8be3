/** Each promise of the document by its number: ordinary inputs, edges and wrong inputs. */
final class PromisesTest {
    private static final Class<IllegalArgumentException> ARGUMENT = IllegalArgumentException.class;
    private static final Class<IllegalStateException> STATE = IllegalStateException.class;
    private static final Class<IndexOutOfBoundsException> INDEX = IndexOutOfBoundsException.class;
    private static final int NONE = EarthHauls.NONE;
    private static final int BIG = Integer.MAX_VALUE;
    private static final int SMALL = Integer.MIN_VALUE;

    private PromisesTest() {
    }

    public static void main(String[] args) {
        promise1NewObject();
        promise1EachByItself();
        promise2Clear();
        promise3Station();
        promise3WrongStations();
        promise4Set();
        promise5Border();
        promise6Beside();
        promise7Area();
        promise8Litres();
        promise8Rounding();
        promise9Curve();
        promise10Balance();
        promise11Cost();
        promise12Solve();
        promise12NoPlan();
        promise13Hauled();
        promise13EqualCosts();
        promise14More();
        promise14MoreOfNothing();
        promise15Lay();
        promise16Judge();
        promise16JudgeOfMissing();
        promise17Worth();
        promise18Excess();
        promise19Count();
        Check.end();
    }

    /** A road whose stations are flat: each span then has the mean of its two heights by 20 by 10 litres a metre. */
    private static EarthHauls flatRoad(int[] lengths, int[] heights) {
        EarthHauls x = new EarthHauls();
        for (int i = 0; i < heights.length; i++) {
            x.station(i == 0 ? 0 : lengths[i - 1], heights[i], heights[i], heights[i], 1010);
        }
        return x;
    }

    /** Spans with 60000 litres of cut, 60000 of fill, 120000 of cut and 90000 of fill, 160000 of cut. */
    private static EarthHauls fourSpans() {
        return flatRoad(new int[] {10, 20, 30, 40}, new int[] {60, 0, -30, 40, 0});
    }

    private static void laySame(EarthHauls x) {
        for (int source = 0; source < 6; source++) {
            for (int sink = 0; sink < 5; sink++) {
                x.lay(source, sink, x.hauled(source, sink));
            }
        }
    }

    private static void dueAsNew(String when, EarthHauls x) {
        for (int what = 0; what < 5; what++) {
            Check.due(when + " count(" + what + ")", x.count(what), 0);
        }
        Check.due(when + " solve()", x.solve(), 0);
        Check.due(when + " judge()", x.judge(), NONE);
        Check.due(when + " worth()", x.worth(), 0);
        Check.due(when + " excess()", x.excess(), 0);
        Check.due(when + " balance(0)", x.balance(0), NONE);
        for (int source = 0; source < 6; source++) {
            for (int sink = 0; sink < 5; sink++) {
                Check.due(when + " cost", x.cost(source, sink), NONE);
                Check.due(when + " hauled", x.hauled(source, sink), 0);
            }
        }
        Check.dueThrow(when + " area(0, 0)", INDEX, () -> x.area(0, 0));
        Check.dueThrow(when + " litres(0, 0)", INDEX, () -> x.litres(0, 0));
        Check.dueThrow(when + " curve(0)", INDEX, () -> x.curve(0));
        Check.dueThrow(when + " more(0, true)", INDEX, () -> x.more(0, true));
    }

    /** What a new object has besides: shrink 1000, rate 1 and open borders are seen once there are spans. */
    private static void dueSettingsOfNew(String when, EarthHauls x) {
        int[] lengths = {0, 10, 20, 30, 40};
        for (int i = 0; i < 5; i++) {
            x.station(lengths[i], 50, 50, 50, 1010);
        }
        Check.due(when + " open borders", x.count(1), 3);
        Check.due(when + " placed at shrink 1000", x.litres(0, 2), x.litres(0, 0));
        Check.due(when + " cost at rate 1", x.cost(0, 3), 10 + 40 + 2 * 20 + 2 * 30);
    }

    private static void promise1NewObject() {
        Check.due("NONE", NONE, -1);
        dueAsNew("new:", new EarthHauls());
        dueSettingsOfNew("new:", new EarthHauls());
    }

    /** What is done to one object is not seen in another, made before or after. */
    private static void promise1EachByItself() {
        EarthHauls before = new EarthHauls();
        EarthHauls x = fourSpans();
        x.set(0, 500);
        x.set(1, 9);
        x.border(1, true);
        x.beside(0, 1, 5, 6);
        x.beside(2, 0, 5, 6);
        x.lay(0, 1, 77);
        x.solve();
        EarthHauls after = new EarthHauls();
        dueAsNew("made before another:", before);
        dueAsNew("made after another:", after);
        dueSettingsOfNew("made before another:", before);
        dueSettingsOfNew("made after another:", after);
        after.clear();
        Check.due("the other one stays", x.count(0), 5);
        Check.due("its shrink stays", x.litres(0, 2), 30000);
        Check.due("its rate stays", x.cost(0, 1), 9 * 30);
        Check.due("its border stays", x.count(1), 2);
        Check.due("its pit stays", x.count(2), 1);
        Check.due("what is laid stays", x.worth(), 77 * 9 * 30);
    }

    private static void promise2Clear() {
        EarthHauls x = fourSpans();
        x.set(0, 500);
        x.set(1, 9);
        x.border(0, true);
        x.border(2, true);
        x.beside(0, 1, 5, 6);
        x.beside(1, 3, 5, 6);
        x.beside(2, 0, 5, 6);
        x.lay(0, 0, 77);
        x.lay(5, 4, 77);
        x.solve();
        x.clear();
        dueAsNew("cleared:", x);
        dueSettingsOfNew("cleared:", x);
        x.clear();
        dueAsNew("cleared twice:", x);
    }

    private static void promise3Station() {
        EarthHauls x = new EarthHauls();
        Check.due("first station", x.station(0, -100, 100, -100, 101), 0);
        Check.due("second station", x.station(1, 100, -100, 100, 5050), 1);
        Check.due("third station", x.station(100, 0, 0, 0, 150), 2);
        Check.due("fourth station", x.station(50, 0, 0, 0, 5001), 3);
        Check.due("fifth station", x.station(50, 1, 2, 3, 3007), 4);
        Check.due("its area", x.area(4, 0), 3 * 30 + 5 * 7);
        Check.due("way shows lengths", x.cost(0, 1), 101);
        EarthHauls growing = flatRoad(new int[] {10}, new int[] {40, 0});
        Check.due("no plan for cut alone", growing.solve(), NONE);
        growing.station(10, -40, -40, -40, 1010);
        Check.due("a plan with the next station", growing.solve(), 40000L * 20);
        Check.dueThrow("a sixth station", STATE, () -> x.station(50, 0, 0, 0, 101));
        Check.dueThrow("a sixth station with a wrong height", ARGUMENT, () -> x.station(50, 0, 101, 0, 101));
        Check.dueThrow("a sixth station of no length", ARGUMENT, () -> x.station(0, 0, 0, 0, 101));
        Check.dueThrow("a sixth station of wrong widths", ARGUMENT, () -> x.station(1, 0, 0, 0, 100));
        Check.due("still five", x.count(0), 5);
    }

    private static void promise3WrongStations() {
        EarthHauls x = new EarthHauls();
        for (int length : new int[] {1, -1, 100, BIG, SMALL}) {
            Check.dueThrow("first station of length " + length, ARGUMENT, () -> x.station(length, 0, 0, 0, 101));
        }
        x.station(0, 0, 0, 0, 101);
        for (int length : new int[] {0, -1, 101, BIG, SMALL}) {
            Check.dueThrow("next station of length " + length, ARGUMENT, () -> x.station(length, 0, 0, 0, 101));
        }
        for (int height : new int[] {-101, 101, BIG, SMALL}) {
            Check.dueThrow("left " + height, ARGUMENT, () -> x.station(1, height, 0, 0, 101));
            Check.dueThrow("middle " + height, ARGUMENT, () -> x.station(1, 0, height, 0, 101));
            Check.dueThrow("right " + height, ARGUMENT, () -> x.station(1, 0, 0, height, 101));
        }
        for (int widths : new int[] {0, 1, 50, 100, 151, 199, 200, 5000, 5051, 5101, 5150, -101, -202, BIG, SMALL}) {
            Check.dueThrow("widths " + widths, ARGUMENT, () -> x.station(1, 0, 0, 0, widths));
        }
        Check.due("nothing changed", x.count(0), 1);
    }

    private static void promise4Set() {
        EarthHauls x = fourSpans();
        x.solve();
        x.set(0, 500);
        Check.due("placed at shrink 500", x.litres(0, 2), 30000);
        x.set(0, 1000);
        Check.due("placed at shrink 1000", x.litres(0, 2), 60000);
        x.set(0, 999);
        Check.due("placed at shrink 999", x.litres(0, 2), 59940);
        x.set(1, 100);
        Check.due("cost at rate 100", x.cost(0, 1), 3000);
        x.set(1, 0);
        Check.due("cost at rate 0", x.cost(0, 3), 0);
        int[][] wrong = {{0, 499}, {0, 1001}, {0, 0}, {0, BIG}, {0, SMALL}, {1, -1}, {1, 101}, {1, 1000}, {1, BIG},
            {2, 500}, {2, 1}, {-1, 500}, {-1, 1}, {BIG, 50}, {SMALL, 600}};
        for (int[] w : wrong) {
            Check.dueThrow("set(" + w[0] + ", " + w[1] + ")", ARGUMENT, () -> x.set(w[0], w[1]));
        }
        Check.due("shrink stays", x.litres(0, 2), 59940);
        Check.due("rate stays", x.cost(0, 3), 0);
    }

    private static void promise5Border() {
        EarthHauls x = new EarthHauls();
        Check.dueThrow("a border of no road", INDEX, () -> x.border(0, true));
        x.station(0, 9, 9, 9, 101);
        x.station(5, 9, 9, 9, 101);
        Check.dueThrow("a border of one span", INDEX, () -> x.border(0, true));
        x.station(6, 9, 9, 9, 101);
        x.border(0, true);
        Check.due("closed to the right", x.cost(0, 1), NONE);
        Check.due("closed to the left", x.cost(1, 0), NONE);
        Check.due("within a span", x.cost(1, 1), 0);
        x.station(7, 9, 9, 9, 101);
        Check.due("a new border is open", x.cost(1, 2), 13);
        Check.due("beyond a closed border", x.cost(2, 0), NONE);
        Check.dueThrow("closed already", STATE, () -> x.border(0, true));
        Check.dueThrow("open already", STATE, () -> x.border(1, false));
        x.border(0, false);
        Check.due("open again", x.cost(0, 2), 5 + 7 + 2 * 6);
        Check.dueThrow("open again already", STATE, () -> x.border(0, false));
        for (int k : new int[] {-1, 2, 3, BIG, BIG - 1, SMALL}) {
            Check.dueThrow("border(" + k + ", true)", INDEX, () -> x.border(k, true));
            Check.dueThrow("border(" + k + ", false)", INDEX, () -> x.border(k, false));
        }
    }

    private static void promise6Beside() {
        EarthHauls x = fourSpans();
        x.beside(0, 0, 0, 0);
        x.beside(1, 3, 100000000, 1000);
        x.beside(2, 2, 7, 3);
        Check.due("from pit 0", x.cost(4, 1), 30);
        Check.due("from pit 1", x.cost(5, 3), 1000);
        Check.due("to the dump", x.cost(1, 4), 50 + 3);
        x.beside(0, 2, 5, 11);
        Check.due("from pit 0 in its new place", x.cost(4, 1), 50 + 11);
        Check.due("from the pit's own span", x.cost(4, 2), 11);
        Check.due("still two pits", x.count(2), 2);
        int[][] nowhere = {{3, 0, 1, 1}, {-1, 0, 1, 1}, {BIG, 0, 1, 1}, {0, 4, 1, 1}, {2, -1, 1, 1}, {1, BIG, 1, 1},
            {0, SMALL, 1, 1}, {3, 0, -1, 1}, {0, 4, 1, 1001}};
        for (int[] w : nowhere) {
            Check.dueThrow("beside " + w[0] + ", " + w[1], INDEX, () -> x.beside(w[0], w[1], w[2], w[3]));
        }
        int[][] wrong = {{0, 0, -1, 1}, {1, 0, 100000001, 1}, {2, 0, 1, -1}, {2, 0, 1, 1001}, {0, 0, SMALL, 1},
            {0, 0, BIG, 1}, {0, 0, 1, BIG}, {0, 0, 1, SMALL}};
        for (int[] w : wrong) {
            Check.dueThrow("beside .. " + w[2] + ", " + w[3], ARGUMENT, () -> x.beside(w[0], w[1], w[2], w[3]));
        }
        Check.due("nothing changed", x.cost(4, 2), 11);
        EarthHauls single = new EarthHauls();
        single.station(0, 1, 1, 1, 101);
        Check.dueThrow("beside where no span is", INDEX, () -> single.beside(0, 0, 1, 1));
    }

    private static void dueArea(int left, int middle, int right, int widths, long[] want) {
        EarthHauls x = new EarthHauls();
        x.station(0, left, middle, right, widths);
        for (int what = 0; what < 4; what++) {
            String call = "area(0, " + what + ") of " + left + ", " + middle + ", " + right + ", " + widths;
            Check.due(call, x.area(0, what), want[what]);
        }
    }

    private static void promise7Area() {
        dueArea(0, 0, 0, 101, new long[] {0, 1, 0, 1});
        dueArea(10, 20, 30, 203, new long[] {60 + 150, 1, 0, 1});
        dueArea(-10, -20, -30, 203, new long[] {0, 1, 60 + 150, 1});
        dueArea(0, 7, 0, 203, new long[] {35, 1, 0, 1});
        dueArea(0, -7, 0, 203, new long[] {0, 1, 35, 1});
        dueArea(1, -2, 0, 101, new long[] {1, 3, 4 + 6, 3});
        dueArea(-2, 1, 0, 101, new long[] {1 + 3, 3, 4, 3});
        dueArea(0, 2, -2, 102, new long[] {4, 1, 2, 1});
        dueArea(30, -20, 10, 520, new long[] {470, 3, 920, 3});
        dueArea(100, -99, 98, 5050, new long[] {100L * 100 * 50 * 197 + 98L * 98 * 50 * 199, 199 * 197,
            99L * 99 * 50 * (197 + 199), 199 * 197});
        EarthHauls x = new EarthHauls();
        x.station(0, 1, 1, 1, 101);
        for (int station : new int[] {-1, 1, BIG, SMALL}) {
            Check.dueThrow("area of station " + station, INDEX, () -> x.area(station, 0));
            Check.dueThrow("area of station " + station + ", 9", INDEX, () -> x.area(station, 9));
        }
        for (int what : new int[] {-1, 4, BIG, SMALL}) {
            Check.dueThrow("area(0, " + what + ")", ARGUMENT, () -> x.area(0, what));
        }
    }

    private static void promise8Litres() {
        EarthHauls x = fourSpans();
        x.set(0, 850);
        int[][] want = {{60000, 0, 51000}, {0, 60000, 0}, {120000, 90000, 102000}, {160000, 0, 136000}};
        for (int span = 0; span < 4; span++) {
            for (int what = 0; what < 3; what++) {
                Check.due("litres(" + span + ", " + what + ")", x.litres(span, what), want[span][what]);
            }
        }
        for (int span : new int[] {-1, 4, BIG, SMALL}) {
            Check.dueThrow("litres of span " + span, INDEX, () -> x.litres(span, 0));
            Check.dueThrow("litres of span " + span + ", 9", INDEX, () -> x.litres(span, 9));
        }
        for (int what : new int[] {-1, 3, BIG, SMALL}) {
            Check.dueThrow("litres(0, " + what + ")", ARGUMENT, () -> x.litres(0, what));
        }
        EarthHauls single = new EarthHauls();
        single.station(0, 1, 1, 1, 101);
        Check.dueThrow("litres of a road of one station", INDEX, () -> single.litres(0, 0));
        EarthHauls most = new EarthHauls();
        most.station(0, 100, 100, 100, 5050);
        most.station(100, 100, 100, 100, 5050);
        Check.due("the most litres", most.litres(0, 0), 10000000);
        most.set(0, 999);
        Check.due("the most litres, placed", most.litres(0, 2), 9990000);
    }

    /** Litres of a span whose first station has this section, and the other one neither cut nor fill. */
    private static void dueRounded(int left, int middle, int right, int widths, int length, int cut, int fill) {
        EarthHauls x = new EarthHauls();
        x.station(0, left, middle, right, widths);
        x.station(length, 0, 0, 0, 101);
        String what = left + ", " + middle + ", " + right + " by " + length;
        Check.due("cut of " + what, x.litres(0, 0), cut);
        Check.due("fill of " + what, x.litres(0, 1), fill);
    }

    private static void promise8Rounding() {
        // Twice the area 1: 2.5 litres a metre, so halves at every odd length.
        dueRounded(1, 0, 0, 101, 1, 3, 0);
        dueRounded(1, 0, 0, 101, 2, 5, 0);
        dueRounded(1, 0, 0, 101, 3, 8, 0);
        dueRounded(0, 0, -1, 101, 1, 0, 3);
        // 1 / 2 of cut and of fill: 1.25 litres a metre.
        dueRounded(1, -1, 0, 101, 1, 1, 1 + 3);
        // 1 / 3 of cut: 5 / 6 of a litre; 4 / 3 + 2 of fill: 25 / 3 litres.
        dueRounded(1, -2, 0, 101, 1, 1, 8);
        // 1 / 6 of cut: 5 / 12 of a litre.
        dueRounded(1, -5, -1, 101, 1, 0, 25);
        // Both stations together are rounded once: 1.25 and 1.25 are 2.5 litres, so 3.
        EarthHauls x = new EarthHauls();
        x.station(0, 1, -1, -1, 101);
        x.station(1, 1, -1, -1, 101);
        Check.due("rounded once", x.litres(0, 0), 3);
        x.set(0, 999);
        Check.due("placed is rounded down", x.litres(0, 2), 2);
        x.set(0, 500);
        Check.due("half of 3, placed", x.litres(0, 2), 1);
    }

    private static void promise9Curve() {
        EarthHauls x = fourSpans();
        x.set(0, 500);
        int[] want = {0, 30000, -30000, -60000, 20000};
        for (int station = 0; station < 5; station++) {
            Check.due("curve(" + station + ")", x.curve(station), want[station]);
        }
        for (int station : new int[] {-1, 5, BIG, SMALL}) {
            Check.dueThrow("curve(" + station + ")", INDEX, () -> x.curve(station));
        }
        EarthHauls single = new EarthHauls();
        Check.dueThrow("curve of no station", INDEX, () -> single.curve(0));
        single.station(0, 9, 9, 9, 101);
        Check.due("curve of the only station", single.curve(0), 0);
    }

    private static void dueBalance(String what, EarthHauls x, int... want) {
        for (int i = 0; i < want.length; i++) {
            Check.due(what + " balance(" + i + ")", x.balance(i), want[i]);
        }
        for (int i : new int[] {want.length, want.length + 1, -1, BIG, SMALL}) {
            Check.due(what + " balance(" + i + ")", x.balance(i), NONE);
        }
    }

    private static void promise10Balance() {
        dueBalance("no station:", new EarthHauls());
        EarthHauls x = fourSpans();
        x.set(0, 500);
        // The curve is 0, 30000, -30000, -60000, 20000.
        dueBalance("over and under:", x, 0, 2, 4);
        x.set(0, 1000);
        // The curve is 0, 60000, 0, 30000, 190000.
        dueBalance("touching 0:", x, 0, 2);
        // The curve is 0, -600, 0, 600, 0: leaving 0 is no change of sides.
        EarthHauls wave = flatRoad(new int[] {2, 2, 2, 2}, new int[] {-3, 0, 3, 0, -3});
        dueBalance("wave:", wave, 0, 2, 4);
        EarthHauls none = flatRoad(new int[] {1, 1, 1, 1}, new int[] {0, 0, 0, 0, 0});
        dueBalance("nothing moved:", none, 0, 1, 2, 3, 4);
        EarthHauls down = flatRoad(new int[] {1, 1}, new int[] {-5, -5, -5});
        dueBalance("only fill:", down, 0);
    }

    private static void promise11Cost() {
        EarthHauls x = fourSpans();
        x.set(1, 3);
        x.beside(0, 1, 0, 5);
        x.beside(2, 3, 0, 7);
        Check.due("within one span", x.cost(2, 2), 0);
        Check.due("to the next", x.cost(0, 1), 3 * 30);
        Check.due("over one", x.cost(2, 0), 3 * (30 + 10 + 2 * 20));
        Check.due("over two", x.cost(0, 3), 3 * (10 + 40 + 2 * 20 + 2 * 30));
        Check.due("from the pit, though empty", x.cost(4, 1), 5);
        Check.due("from the pit to the left", x.cost(4, 0), 90 + 5);
        Check.due("from a pit that is not there", x.cost(5, 1), NONE);
        Check.due("to the dump within its span", x.cost(3, 4), 7);
        Check.due("to the dump", x.cost(0, 4), 3 * 150 + 7);
        Check.due("from a pit to the dump", x.cost(4, 4), NONE);
        x.border(1, true);
        Check.due("over a closed border", x.cost(0, 3), NONE);
        Check.due("back over it", x.cost(3, 0), NONE);
        Check.due("the pit beside span 1 to span 2", x.cost(4, 2), NONE);
        Check.due("before it", x.cost(1, 0), 90);
        Check.due("behind it", x.cost(2, 3), 210);
        int[][] wrong = {{-1, 0}, {6, 0}, {0, -1}, {0, 5}, {BIG, 0}, {0, SMALL}};
        for (int[] w : wrong) {
            Check.dueThrow("cost(" + w[0] + ", " + w[1] + ")", INDEX, () -> x.cost(w[0], w[1]));
        }
        EarthHauls two = flatRoad(new int[] {1, 1}, new int[] {0, 0, 0});
        Check.due("from a span that is not there", two.cost(2, 0), NONE);
        Check.due("to a span that is not there", two.cost(0, 3), NONE);
        Check.due("to a dump that is not there", two.cost(0, 4), NONE);
    }

    private static void promise12Solve() {
        EarthHauls x = flatRoad(new int[] {10, 20, 10}, new int[] {40, 0, 0, -40});
        Check.due("cut to fill over one span", x.solve(), 40000L * (10 + 10 + 2 * 20));
        x.set(1, 0);
        Check.due("at rate 0", x.solve(), 0);
        x.set(1, 1);
        x.beside(2, 0, 40000, 1);
        x.beside(0, 2, 40000, 2);
        Check.due("dump and pit instead", x.solve(), 40000L * 3);
        x.beside(0, 2, 39999, 2);
        Check.due("one litre must go the way", x.solve(), 39999L * 3 + 60);
        x.beside(0, 2, 40000, 60);
        Check.due("the pit too dear", x.solve(), 40000L * 60);
        EarthHauls most = new EarthHauls();
        for (int i = 0; i < 5; i++) {
            most.station(i == 0 ? 0 : 100, 100, 100, 100, 5050);
        }
        most.set(1, 100);
        most.beside(2, 0, 40000000, 1000);
        Check.due("the dearest", most.solve(), 10000000L * (4000 + 20000 + 40000 + 60000));
    }

    private static void promise12NoPlan() {
        EarthHauls x = flatRoad(new int[] {10, 20, 10}, new int[] {40, 0, 0, -40});
        x.border(1, true);
        Check.due("over a closed border", x.solve(), NONE);
        x.beside(2, 1, 40000, 0);
        Check.due("a dump alone does not help", x.solve(), NONE);
        x.beside(0, 2, 39999, 0);
        Check.due("a pit one litre too small", x.solve(), NONE);
        x.beside(1, 0, 100000000, 0);
        Check.due("a pit behind the border", x.solve(), NONE);
        x.beside(1, 2, 1, 0);
        Check.due("both pits together", x.solve(), 40000L * 30);
        x.beside(2, 1, 39999, 0);
        Check.due("a dump one litre too small", x.solve(), NONE);
        x.border(1, false);
        Check.due("open again", x.solve(), 39999L * 30 + 60);
        EarthHauls shrunk = flatRoad(new int[] {10, 10}, new int[] {40, 0, -40});
        Check.due("cut is just enough", shrunk.solve(), 40000L * 20);
        shrunk.set(0, 999);
        Check.due("cut that shrinks is not", shrunk.solve(), NONE);
    }

    private static void promise13Hauled() {
        EarthHauls x = flatRoad(new int[] {10, 20, 10}, new int[] {40, 0, 0, -40});
        x.beside(2, 0, 15000, 1);
        x.beside(0, 2, 40000, 2);
        int[][] want = new int[6][5];
        want[0][2] = 25000;
        want[0][4] = 15000;
        want[4][2] = 15000;
        for (int source = 0; source < 6; source++) {
            for (int sink = 0; sink < 5; sink++) {
                Check.due("hauled(" + source + ", " + sink + ")", x.hauled(source, sink), want[source][sink]);
            }
        }
        x.border(0, true);
        Check.due("in no plan", x.hauled(0, 4), 0);
        Check.due("no plan", x.solve(), NONE);
        int[][] wrong = {{-1, 0}, {6, 0}, {0, -1}, {0, 5}, {SMALL, 0}, {0, BIG}};
        for (int[] w : wrong) {
            Check.dueThrow("hauled(" + w[0] + ", " + w[1] + ")", INDEX, () -> x.hauled(w[0], w[1]));
        }
    }

    private static void promise13EqualCosts() {
        // At rate 0 every plan costs nothing; 2^(5 source + sink) then settles it.
        EarthHauls x = flatRoad(new int[] {10, 10, 10}, new int[] {40, 0, 0, -40});
        x.set(1, 0);
        x.beside(0, 0, 100000, 0);
        x.beside(1, 0, 100000, 0);
        x.beside(2, 0, 100000, 0);
        Check.due("nothing to pay", x.solve(), 0);
        Check.due("2^2 is less than 2^4 and 2^22 or 2^27", x.hauled(0, 2), 40000);
        // Two cuts and two fills: 0 to 2 and 1 to 3 are 2^2 + 2^8, 0 to 3 and 1 to 2 are 2^3 + 2^7.
        EarthHauls pair = new EarthHauls();
        int[] heights = {40, 40, 0, -40, -40};
        for (int i = 0; i < 5; i++) {
            pair.station(i == 0 ? 0 : 10, heights[i], heights[i], heights[i], 1010);
        }
        pair.set(1, 0);
        Check.due("span 0 to 3", pair.hauled(0, 3), 80000);
        Check.due("span 1 to 2", pair.hauled(1, 2), 40000);
        Check.due("span 0 to 2", pair.hauled(0, 2), 0);
        // Both pits cost the same: the first one has the lesser power.
        EarthHauls pits = flatRoad(new int[] {10}, new int[] {-10, -10});
        pits.beside(0, 0, 15000, 4);
        pits.beside(1, 0, 100000, 4);
        Check.due("from pit 0", pits.hauled(4, 0), 15000);
        Check.due("from pit 1", pits.hauled(5, 0), 5000);
        Check.due("their cost", pits.solve(), 80000);
    }

    private static void promise14More() {
        EarthHauls x = flatRoad(new int[] {10, 20, 10}, new int[] {40, 0, 0, -40});
        Check.due("no plan then: more cut", x.more(0, true), NONE);
        Check.due("no plan then: more fill", x.more(2, false), NONE);
        x.beside(2, 1, 1, 7);
        Check.due("one litre more to the dump", x.more(0, true), 30 + 7);
        Check.due("one litre more, turned about", x.more(2, true), 30 + 7 - 60);
        Check.due("still no plan with more fill", x.more(2, false), NONE);
        x.beside(2, 1, 0, 7);
        Check.due("a dump that is full", x.more(0, true), NONE);
        x.beside(0, 2, 100, 9);
        Check.due("one litre more from the pit", x.more(2, false), 9);
        Check.due("one litre more in span 0", x.more(0, false), 9 - 60);
        Check.due("a plan asked again is the same", x.solve(), 40000L * 60);
        x.border(1, true);
        Check.due("no plan now", x.more(2, false), NONE);
        for (int span : new int[] {-1, 3, 4, BIG, SMALL}) {
            Check.dueThrow("more(" + span + ", true)", INDEX, () -> x.more(span, true));
            Check.dueThrow("more(" + span + ", false)", INDEX, () -> x.more(span, false));
        }
        EarthHauls lacking = flatRoad(new int[] {10}, new int[] {-1, -1});
        Check.due("no plan now and none then", lacking.more(0, true), NONE);
        lacking.beside(0, 0, 2000, 3);
        Check.due("less from the pit", lacking.more(0, true), -3);
        Check.due("more than the pit has", lacking.more(0, false), NONE);
    }

    private static void promise14MoreOfNothing() {
        EarthHauls x = flatRoad(new int[] {10, 10}, new int[] {0, 0, 0});
        Check.due("nothing to do", x.solve(), 0);
        Check.due("a litre with no place to go", x.more(0, true), NONE);
        Check.due("a litre from nowhere", x.more(0, false), NONE);
        x.beside(2, 1, 1, 1);
        x.beside(1, 1, 1, 0);
        Check.due("a litre to the dump", x.more(0, true), 21);
        Check.due("a litre from the pit", x.more(1, false), 0);
        Check.due("and back to nothing", x.solve(), 0);
        // There is a plan then, but none now.
        EarthHauls odd = new EarthHauls();
        odd.station(0, 1, -1, -1, 101);
        odd.station(1, 1, -1, 0, 101);
        odd.set(0, 500);
        int lack = odd.litres(0, 1) - odd.litres(0, 2);
        odd.beside(0, 0, lack - 1, 0);
        Check.due("one litre is lacking", odd.solve(), NONE);
        Check.due("one litre more of cut would do", odd.more(0, true), NONE);
    }

    private static void promise15Lay() {
        EarthHauls x = flatRoad(new int[] {10, 20}, new int[] {0, 0, 0});
        x.lay(0, 1, 100000000);
        Check.due("laid", x.worth(), 3000000000L);
        x.lay(0, 1, 5);
        Check.due("laid in its place", x.worth(), 150);
        x.lay(1, 0, 2);
        Check.due("laid beside", x.worth(), 210);
        int[][] nowhere = {{-1, 0, 1}, {6, 0, 1}, {0, -1, 1}, {0, 5, 1}, {BIG, 0, 1}, {0, SMALL, -1}};
        for (int[] w : nowhere) {
            Check.dueThrow("lay(" + w[0] + ", " + w[1] + ", " + w[2] + ")", INDEX, () -> x.lay(w[0], w[1], w[2]));
        }
        for (int litres : new int[] {-1, 100000001, BIG, SMALL}) {
            Check.dueThrow("lay(0, 1, " + litres + ")", ARGUMENT, () -> x.lay(0, 1, litres));
        }
        Check.due("nothing changed", x.worth(), 210);
        x.lay(0, 1, 0);
        x.lay(1, 0, 0);
        Check.due("taken back", x.worth(), 0);
        x.lay(5, 4, 3);
        x.lay(3, 3, 3);
        Check.due("what is not possible may be laid", x.worth(), 0);
    }

    private static void promise16Judge() {
        EarthHauls x = flatRoad(new int[] {10, 20, 10}, new int[] {40, 0, 0, -40});
        x.beside(0, 2, 50, 1);
        x.beside(1, 2, 60, 1);
        x.beside(2, 0, 100, 1);
        Check.due("nothing laid", x.judge(), 0);
        x.lay(0, 2, 39900);
        x.lay(0, 4, 100);
        Check.due("fill of span 2", x.judge(), 6 + 2);
        x.lay(4, 2, 40);
        x.lay(5, 2, 60);
        Check.due("a plan", x.judge(), NONE);
        x.lay(4, 2, 51);
        Check.due("pit 0", x.judge(), 4);
        x.lay(4, 2, 39);
        x.lay(5, 2, 61);
        Check.due("pit 1", x.judge(), 5);
        x.lay(5, 2, 60);
        Check.due("too little fill", x.judge(), 8);
        x.lay(4, 2, 40);
        x.lay(0, 2, 39899);
        x.lay(0, 4, 101);
        Check.due("span before dump", x.judge(), 8);
        x.lay(4, 2, 41);
        Check.due("the dump", x.judge(), 6 + 4);
        x.beside(2, 0, 101, 1);
        Check.due("a larger dump", x.judge(), NONE);
        x.border(0, true);
        Check.due("over a closed border", x.judge(), 100 + 5 * 0 + 2);
        x.border(0, false);
        x.beside(2, 0, 110, 1);
        x.lay(4, 4, 9);
        Check.due("from a pit to the dump", x.judge(), 100 + 5 * 4 + 4);
        x.lay(4, 1, 1);
        Check.due("pit 0 over its litres", x.judge(), 4);
        x.lay(4, 4, 0);
        Check.due("fill where none is wanted", x.judge(), 6 + 1);
        x.lay(1, 4, 1);
        Check.due("a span that has nothing", x.judge(), 1);
    }

    private static void promise16JudgeOfMissing() {
        EarthHauls x = new EarthHauls();
        Check.due("nothing at all", x.judge(), NONE);
        x.lay(3, 3, 1);
        Check.due("from a span that is not there", x.judge(), 3);
        x.lay(3, 3, 0);
        x.lay(5, 4, 1);
        Check.due("from a pit that is not there", x.judge(), 5);
        x.lay(5, 4, 0);
        EarthHauls two = flatRoad(new int[] {10, 10}, new int[] {40, 0, 0});
        two.lay(0, 3, 40000);
        Check.due("to a span that is not there", two.judge(), 6 + 3);
        two.lay(0, 3, 0);
        two.lay(0, 4, 40000);
        Check.due("to a dump that is not there", two.judge(), 6 + 4);
        two.beside(2, 1, 40000, 0);
        Check.due("to a dump that is there", two.judge(), NONE);
        two.border(0, true);
        Check.due("to a dump behind a border", two.judge(), 104);
    }

    private static void promise17Worth() {
        EarthHauls x = fourSpans();
        Check.due("nothing laid", x.worth(), 0);
        x.beside(0, 1, 10, 5);
        x.beside(2, 3, 10, 7);
        x.lay(0, 0, 1000);
        Check.due("within a span", x.worth(), 0);
        x.lay(0, 3, 2);
        x.lay(4, 0, 3);
        x.lay(1, 4, 4);
        long all = 2 * 150 + 3 * (30 + 5) + 4 * (20 + 40 + 2 * 30 + 7);
        Check.due("all that is laid", x.worth(), all);
        x.lay(5, 0, 1000);
        x.lay(4, 4, 1000);
        Check.due("what is not possible aside", x.worth(), all);
        x.border(2, true);
        Check.due("closed borders aside", x.worth(), 3 * 35);
        x.set(1, 2);
        Check.due("at another rate", x.worth(), 3 * 65);
        EarthHauls most = flatRoad(new int[] {100, 100, 100, 100}, new int[] {0, 0, 0, 0, 0});
        most.set(1, 100);
        most.lay(0, 3, 100000000);
        most.lay(3, 0, 100000000);
        Check.due("the most", most.worth(), 12000000000000L);
    }

    private static void promise18Excess() {
        EarthHauls x = flatRoad(new int[] {10, 20, 10}, new int[] {40, 0, 0, -40});
        Check.due("no plan of one's own", x.excess(), NONE);
        x.lay(0, 2, 40000);
        Check.due("the plan itself", x.excess(), 0);
        x.beside(2, 0, 30000, 1);
        x.beside(0, 2, 40000, 2);
        Check.due("a dearer one", x.excess(), 30000L * (60 - 3));
        laySame(x);
        Check.due("the better plan laid", x.excess(), 0);
        x.lay(0, 4, 29999);
        Check.due("a litre is left", x.excess(), NONE);
        x.lay(0, 4, 30000);
        x.border(1, true);
        Check.due("hauls that are not possible", x.excess(), NONE);
        EarthHauls one = flatRoad(new int[] {10}, new int[] {-40, -40});
        one.beside(0, 0, 80000, 10);
        one.beside(1, 0, 80000, 11);
        one.lay(5, 0, 1);
        one.lay(4, 0, 79999);
        Check.due("dearer by one", one.excess(), 1);
    }

    private static void promise19Count() {
        EarthHauls x = new EarthHauls();
        int[][] want = {{0, 0, 0, 0, 0}, {1, 0, 0, 0, 0}, {2, 0, 0, 0, 1}, {3, 1, 0, 0, 4}, {4, 2, 0, 0, 9},
            {5, 3, 0, 0, 16}};
        for (int n = 0; n <= 5; n++) {
            for (int what = 0; what < 5; what++) {
                Check.due(n + " stations: count(" + what + ")", x.count(what), want[n][what]);
            }
            if (n < 5) {
                x.station(n == 0 ? 0 : 1, 0, 0, 0, 101);
            }
        }
        x.border(1, true);
        Check.due("open borders", x.count(1), 2);
        Check.due("hauls over them", x.count(4), 8);
        x.beside(1, 0, 0, 0);
        Check.due("one pit", x.count(2), 1);
        Check.due("hauls with it", x.count(4), 8 + 2);
        x.beside(0, 3, 0, 0);
        Check.due("two pits", x.count(2), 2);
        Check.due("no dump", x.count(3), 0);
        x.beside(2, 3, 0, 0);
        Check.due("one dump", x.count(3), 1);
        Check.due("hauls with all", x.count(4), 8 + 2 + 2 + 2);
        x.border(1, false);
        Check.due("all hauls", x.count(4), 16 + 8 + 4);
        for (int what : new int[] {-1, 5, BIG, SMALL}) {
            Check.dueThrow("count(" + what + ")", ARGUMENT, () -> x.count(what));
        }
    }
}
