/** The boundary cases that the section 'Terms' names: the last number that is allowed and the first that is not. */
final class TermsEdgesTest {
    private static final Class<IllegalArgumentException> ARGUMENT = IllegalArgumentException.class;
    private static final Class<IllegalStateException> STATE = IllegalStateException.class;
    private static final Class<IndexOutOfBoundsException> INDEX = IndexOutOfBoundsException.class;
    private static final int NONE = EarthHauls.NONE;
    private static final int MOST = 100000000;

    private TermsEdgesTest() {
    }

    public static void main(String[] args) {
        stationsAreAtMostFive();
        numbersOfStationsSpansAndBorders();
        lengthOfTheFirstStation();
        lengthsOfSpans();
        heights();
        heightsShowInTheArea();
        eachWidth();
        widthsNearTheirRange();
        widthsFarAway();
        groundAtZero();
        halvesUpwards();
        nextToHalves();
        roundedOnce();
        mostAndLeastLitres();
        shrinkEdges();
        placedIsRoundedDown();
        rateEdges();
        bordersAreOpenAtFirst();
        allBordersBetween();
        litresOfPitsAndDump();
        pricesOfPitsAndDump();
        bothThere();
        notFromAPitToTheDump();
        wayWithinOneSpan();
        wayOfBothSpansAndBetween();
        noPitHasMoreThanItsLitres();
        theDumpHasNoMoreThanItsLitres();
        allGoesAndComes();
        leastCostBeforeTheSum();
        leastSumOfSeveral();
        curveOfTheFirstStation();
        Check.end();
    }

    private static EarthHauls flatRoad(int[] lengths, int... heights) {
        EarthHauls x = new EarthHauls();
        for (int i = 0; i < heights.length; i++) {
            x.station(i == 0 ? 0 : lengths[i - 1], heights[i], heights[i], heights[i], 1010);
        }
        return x;
    }

    private static EarthHauls emptyRoad(int stations) {
        EarthHauls x = new EarthHauls();
        for (int i = 0; i < stations; i++) {
            x.station(i == 0 ? 0 : 10 * i, 0, 0, 0, 101);
        }
        return x;
    }

    private static void stationsAreAtMostFive() {
        EarthHauls x = emptyRoad(4);
        Check.due("the fifth station", x.station(1, 0, 0, 0, 101), 4);
        Check.dueThrow("the sixth station", STATE, () -> x.station(1, 0, 0, 0, 101));
        Check.due("stations", x.count(0), 5);
        x.clear();
        Check.due("a station after clear", x.station(0, 0, 0, 0, 101), 0);
    }

    private static void numbersOfStationsSpansAndBorders() {
        for (int n = 0; n <= 5; n++) {
            EarthHauls x = emptyRoad(n);
            for (int i = -1; i <= 6; i++) {
                int at = i;
                String when = n + " stations: ";
                boolean station = 0 <= i && i < n;
                boolean span = 0 <= i && i + 1 < n;
                boolean border = 0 <= i && i + 2 < n;
                String refused = "throws.IndexOutOfBoundsException";
                Check.dueSame(when + "curve(" + i + ")", Check.told(() -> x.curve(at)), station ? "0" : refused);
                Check.dueSame(when + "area(" + i + ", 1)", Check.told(() -> x.area(at, 1)), station ? "1" : refused);
                Check.dueSame(when + "litres(" + i + ", 0)", Check.told(() -> x.litres(at, 0)), span ? "0" : refused);
                Check.dueSame(when + "more(" + i + ", true)", Check.told(() -> x.more(at, true)), span ? "-1" : refused);
                Check.dueSame(when + "border(" + i + ", true)", Check.told(() -> {
                    x.border(at, true);
                    return 0;
                }), border ? "0" : refused);
            }
        }
    }

    private static void lengthOfTheFirstStation() {
        for (int wrong : new int[] {-1, 1}) {
            EarthHauls x = new EarthHauls();
            Check.dueThrow("a first station of length " + wrong, ARGUMENT, () -> x.station(wrong, 0, 0, 0, 101));
        }
        Check.due("a first station of length 0", new EarthHauls().station(0, 0, 0, 0, 101), 0);
    }

    private static void lengthsOfSpans() {
        for (int n = 1; n < 5; n++) {
            EarthHauls x = emptyRoad(n);
            for (int wrong : new int[] {-1, 0, 101}) {
                Check.dueThrow("station " + n + " of length " + wrong, ARGUMENT, () -> x.station(wrong, 0, 0, 0, 101));
            }
            for (int length : new int[] {1, 100}) {
                EarthHauls road = emptyRoad(n);
                Check.due("station " + n + " of length " + length, road.station(length, 4, 4, 4, 101), n);
                Check.due("litres by the length " + length, road.litres(n - 1, 0), 40 * length);
                if (n > 1) {
                    Check.due("way by the length " + length, road.cost(n - 1, n - 2), length + 10 * (n - 1));
                }
            }
        }
    }

    private static void heights() {
        for (int place = 0; place < 3; place++) {
            for (int height : new int[] {-101, -100, 100, 101}) {
                int[] h = new int[3];
                h[place] = height;
                EarthHauls x = new EarthHauls();
                boolean fits = height == -100 || height == 100;
                Check.dueSame("height " + height + " at " + place, Check.told(() -> x.station(0, h[0], h[1], h[2], 101)),
                        fits ? "0" : "throws.IllegalArgumentException");
                Check.due("stations then", x.count(0), fits ? 1 : 0);
            }
        }
    }

    private static void heightsShowInTheArea() {
        int[] want = {300, 800, 500};
        for (int place = 0; place < 3; place++) {
            for (int sign : new int[] {1, -1}) {
                int[] h = new int[3];
                h[place] = 100 * sign;
                EarthHauls x = new EarthHauls();
                x.station(0, h[0], h[1], h[2], 305);
                Check.due("cut of " + h[place] + " at " + place, x.area(0, 0), sign > 0 ? want[place] : 0);
                Check.due("fill of " + h[place] + " at " + place, x.area(0, 2), sign > 0 ? 0 : want[place]);
            }
        }
    }

    private static void eachWidth() {
        for (int width : new int[] {0, 1, 50, 51}) {
            boolean fits = width == 1 || width == 50;
            EarthHauls x = new EarthHauls();
            String want = fits ? "0" : "throws.IllegalArgumentException";
            Check.dueSame("first width " + width, Check.told(() -> x.station(0, 7, 0, 0, 100 * width + 3)), want);
            EarthHauls y = new EarthHauls();
            Check.dueSame("second width " + width, Check.told(() -> y.station(0, 0, 0, 7, 300 + width)), want);
            if (fits) {
                Check.due("area by the first width " + width, x.area(0, 0), 7 * width);
                Check.due("area by the second width " + width, y.area(0, 0), 7 * width);
            }
        }
    }

    private static boolean areWidths(long both) {
        for (int first = 1; first <= 50; first++) {
            if (both - 100 * first >= 1 && both - 100 * first <= 50) {
                return true;
            }
        }
        return false;
    }

    private static int widthsAllowed(int first, int last, int step) {
        int allowed = 0;
        for (long both = first; both <= last; both += step) {
            int widths = (int) both;
            EarthHauls x = new EarthHauls();
            boolean got = Check.told(() -> x.station(0, 0, 0, 0, widths)).equals("0");
            Check.due("widths " + widths + " allowed", got ? 1 : 0, areWidths(both) ? 1 : 0);
            allowed += got ? 1 : 0;
        }
        return allowed;
    }

    private static void widthsNearTheirRange() {
        Check.due("pairs of widths", widthsAllowed(-20000, 20000, 1), 2500);
    }

    private static void widthsFarAway() {
        Check.due("widths far above", widthsAllowed(20001, Integer.MAX_VALUE, 50021), 0);
        Check.due("widths far below", widthsAllowed(Integer.MIN_VALUE, -20001, 50021), 0);
        // What would be 101 or 5050 if only the last bits or digits counted.
        for (int both : new int[] {65536 + 101, 65536 + 5050, 256 * 256 * 256 + 101, Integer.MIN_VALUE + 101,
            10101, 15050, 1000000101, -101, -5050, -65536 + 101, Integer.MAX_VALUE, Integer.MIN_VALUE}) {
            EarthHauls x = new EarthHauls();
            Check.dueThrow("widths " + both, ARGUMENT, () -> x.station(0, 0, 0, 0, both));
        }
    }

    private static void dueAreas(int left, int middle, int right, int widths, long... want) {
        EarthHauls x = new EarthHauls();
        x.station(0, left, middle, right, widths);
        for (int what = 0; what < 4; what++) {
            Check.due("area(0, " + what + ") of " + left + ", " + middle + ", " + right, x.area(0, what), want[what]);
        }
    }

    private static void groundAtZero() {
        dueAreas(0, 0, 0, 5050, 0, 1, 0, 1);
        dueAreas(1, 0, 0, 101, 1, 1, 0, 1);
        dueAreas(-1, 0, 0, 101, 0, 1, 1, 1);
        dueAreas(0, 1, 0, 101, 2, 1, 0, 1);
        dueAreas(0, -1, 0, 101, 0, 1, 2, 1);
        dueAreas(0, 0, 1, 101, 1, 1, 0, 1);
        dueAreas(0, 0, -1, 101, 0, 1, 1, 1);
        dueAreas(1, 0, -1, 101, 1, 1, 1, 1);
        dueAreas(-1, 0, 1, 101, 1, 1, 1, 1);
        dueAreas(1, -1, 1, 101, 1, 1, 1, 1);
        dueAreas(-1, 1, -1, 101, 1, 1, 1, 1);
        dueAreas(-1, 1, -1, 102, 3, 2, 3, 2);
        dueAreas(100, -1, -1, 101, 10000, 101, 1 + 2 * 101, 101);
        dueAreas(-100, 1, 1, 101, 1 + 2 * 101, 101, 10000, 101);
        dueAreas(100, -100, 100, 5050, 5000, 1, 5000, 1);
        dueAreas(100, 100, 100, 5050, 20000, 1, 0, 1);
        dueAreas(-100, -100, -100, 5050, 0, 1, 20000, 1);
    }

    /** Cut of a span whose second station has none, and fill of the same span turned over. */
    private static void dueLitres(int left, int middle, int right, int widths, int length, int want) {
        for (int sign : new int[] {1, -1}) {
            EarthHauls x = new EarthHauls();
            x.station(0, sign * left, sign * middle, sign * right, widths);
            x.station(length, 0, 0, 0, 101);
            String what = left + ", " + middle + ", " + right + " by " + length + " times " + sign;
            Check.due("litres of " + what, x.litres(0, sign > 0 ? 0 : 1), want);
        }
    }

    private static void halvesUpwards() {
        // 2.5 litres a metre.
        dueLitres(1, 0, 0, 101, 1, 3);
        dueLitres(1, 0, 0, 101, 3, 8);
        dueLitres(1, 0, 0, 101, 99, 248);
        dueLitres(1, 0, 0, 101, 100, 250);
        // 29065.5 litres, of two fractions.
        dueLitres(99, -99, 81, 3039, 4, 29066);
        // 5 / 6 and 5 / 12 of a litre.
        dueLitres(1, -2, 0, 101, 1, 1);
        dueLitres(1, -5, 0, 101, 1, 0);
        // 1 / 2 of a litre: 5 * 4 / (2 * 20).
        dueLitres(2, -18, 0, 101, 1, 1);
        // 10 / 21 and 10 / 19 of a litre, to either side of the half.
        dueLitres(2, -19, 0, 101, 1, 0);
        dueLitres(2, -17, 0, 101, 1, 1);
    }

    private static void nextToHalves() {
        // 77155.5 and 1 / 54418 of a litre more; 152273.5 and 1 / 49766 less.
        dueLitres(76, -85, 84, 2949, 10, 77156);
        dueLitres(94, -73, 76, 4510, 22, 152273);
        // Two sections of two fractions each: 6 / 100000000 over the half, 2 / 1000000 under it, and just the half.
        dueCut(new int[] {86, -90, 88, 3006}, new int[] {90, -83, 94, 714}, 91, 579751);
        dueCut(new int[] {91, -93, 90, 2720}, new int[] {100, -99, 91, 905}, 8, 55411);
        dueCut(new int[] {88, -88, 88, 4134}, new int[] {99, -96, 99, 231}, 39, 483467);
    }

    private static void dueCut(int[] one, int[] other, int length, int want) {
        EarthHauls x = new EarthHauls();
        x.station(0, one[0], one[1], one[2], one[3]);
        x.station(length, other[0], other[1], other[2], other[3]);
        Check.due("cut between two stations", x.litres(0, 0), want);
        EarthHauls turned = new EarthHauls();
        turned.station(0, -one[0], -one[1], -one[2], one[3]);
        turned.station(length, -other[0], -other[1], -other[2], other[3]);
        Check.due("fill between two stations", turned.litres(0, 1), want);
    }

    private static void roundedOnce() {
        // 1.25 and 1.25 litres are 2.5 and so 3, neither 1 and 1 nor 2 and 2.
        dueCut(new int[] {1, -1, -1, 101}, new int[] {1, -1, -1, 101}, 1, 3);
        // 5 / 12 and 5 / 12 of a litre are 1, not 0.
        dueCut(new int[] {1, -5, -1, 101}, new int[] {1, -5, -1, 101}, 1, 1);
        // 5 / 6 and 5 / 12 are 1.25 and so 1.
        dueCut(new int[] {1, -2, -1, 101}, new int[] {1, -5, -1, 101}, 1, 1);
    }

    private static void mostAndLeastLitres() {
        for (int sign : new int[] {1, -1}) {
            EarthHauls x = new EarthHauls();
            x.station(0, 100 * sign, 100 * sign, 100 * sign, 5050);
            x.station(100, 100 * sign, 100 * sign, 100 * sign, 5050);
            Check.due("the most cut", x.litres(0, 0), sign > 0 ? 10000000 : 0);
            Check.due("the most fill", x.litres(0, 1), sign > 0 ? 0 : 10000000);
            Check.due("the most placed", x.litres(0, 2), sign > 0 ? 10000000 : 0);
        }
        // 1 / 101 of 2.5 litres.
        dueLitres(1, -100, 0, 101, 1, 0);
        EarthHauls all = new EarthHauls();
        for (int i = 0; i < 5; i++) {
            all.station(i == 0 ? 0 : 100, -100, -100, -100, 5050);
        }
        Check.due("the lowest curve", all.curve(4), -40000000);
    }

    private static void shrinkEdges() {
        EarthHauls x = flatRoad(new int[] {10}, 50, 50);
        Check.due("placed at first", x.litres(0, 2), 100000);
        for (int wrong : new int[] {499, 1001, -1, 0}) {
            Check.dueThrow("shrink " + wrong, ARGUMENT, () -> x.set(0, wrong));
        }
        Check.due("placed after what was refused", x.litres(0, 2), 100000);
        x.set(0, 500);
        Check.due("placed at shrink 500", x.litres(0, 2), 50000);
        x.set(0, 501);
        Check.due("placed at shrink 501", x.litres(0, 2), 50100);
        x.set(0, 999);
        Check.due("placed at shrink 999", x.litres(0, 2), 99900);
        x.set(0, 1000);
        Check.due("placed at shrink 1000", x.litres(0, 2), 100000);
        Check.due("cut does not shrink", x.litres(0, 0), 100000);
    }

    private static void placedIsRoundedDown() {
        // 2.5 litres of cut are 3 before they shrink.
        EarthHauls x = new EarthHauls();
        x.station(0, 1, 0, 0, 101);
        x.station(1, 0, 0, 0, 101);
        int[][] want = {{1000, 3}, {999, 2}, {700, 2}, {667, 2}, {666, 1}, {500, 1}};
        for (int[] w : want) {
            x.set(0, w[0]);
            Check.due("3 litres at shrink " + w[0], x.litres(0, 2), w[1]);
        }
        // 1 litre: 5 / 6, rounded.
        EarthHauls one = new EarthHauls();
        one.station(0, 1, -2, 0, 101);
        one.station(1, 0, 0, 0, 101);
        Check.due("1 litre at shrink 1000", one.litres(0, 2), 1);
        one.set(0, 999);
        Check.due("1 litre at shrink 999", one.litres(0, 2), 0);
        EarthHauls most = new EarthHauls();
        most.station(0, 100, 100, 100, 5050);
        most.station(100, 100, 100, 100, 5049);
        Check.due("much cut", most.litres(0, 0), 9950000);
        most.set(0, 999);
        Check.due("much cut, placed", most.litres(0, 2), 9940050);
    }

    private static void rateEdges() {
        EarthHauls x = emptyRoad(3);
        Check.due("cost at first", x.cost(0, 1), 30);
        for (int wrong : new int[] {-1, 101, 500}) {
            Check.dueThrow("rate " + wrong, ARGUMENT, () -> x.set(1, wrong));
        }
        Check.due("cost after what was refused", x.cost(0, 1), 30);
        x.set(1, 0);
        Check.due("cost at rate 0", x.cost(0, 1), 0);
        x.set(1, 100);
        Check.due("cost at rate 100", x.cost(0, 1), 3000);
        x.set(1, 99);
        Check.due("cost at rate 99", x.cost(0, 1), 2970);
    }

    private static void bordersAreOpenAtFirst() {
        EarthHauls x = emptyRoad(3);
        Check.dueThrow("border 1 of two spans", INDEX, () -> x.border(1, true));
        x.border(0, true);
        Check.dueThrow("closed already", STATE, () -> x.border(0, true));
        x.station(1, 0, 0, 0, 101);
        Check.dueThrow("a new border is open already", STATE, () -> x.border(1, false));
        Check.due("one open border", x.count(1), 1);
        x.border(1, true);
        x.border(0, false);
        Check.dueThrow("open already", STATE, () -> x.border(0, false));
        x.station(1, 0, 0, 0, 101);
        Check.due("the first and the last are open", x.count(1), 2);
        Check.dueThrow("the last is open already", STATE, () -> x.border(2, false));
        Check.dueThrow("there is no fourth", INDEX, () -> x.border(3, true));
    }

    private static void allBordersBetween() {
        for (int closed = 0; closed < 8; closed++) {
            EarthHauls x = emptyRoad(5);
            x.beside(0, 3, 1, 0);
            x.beside(1, 1, 1, 0);
            x.beside(2, 2, 1, 0);
            for (int k = 0; k < 3; k++) {
                if ((closed >> k & 1) == 1) {
                    x.border(k, true);
                }
            }
            dueOpenHauls(x, closed);
        }
    }

    private static void dueOpenHauls(EarthHauls x, int closed) {
        int[] from = {0, 1, 2, 3, 3, 1};
        int[] to = {0, 1, 2, 3, 2};
        int possible = 0;
        for (int source = 0; source < 6; source++) {
            for (int sink = 0; sink < 5; sink++) {
                boolean open = source < 4 || sink < 4;
                for (int k = 0; k < 3; k++) {
                    boolean between = from[source] <= k && k < to[sink] || to[sink] <= k && k < from[source];
                    open &= !between || (closed >> k & 1) == 0;
                }
                boolean got = x.cost(source, sink) != NONE;
                Check.due("closed " + closed + ": " + source + " to " + sink, got ? 1 : 0, open ? 1 : 0);
                possible += open ? 1 : 0;
            }
        }
        Check.due("closed " + closed + ": possible", x.count(4), possible);
    }

    private static void litresOfPitsAndDump() {
        for (int which = 0; which < 3; which++) {
            EarthHauls x = emptyRoad(3);
            int at = which;
            for (int wrong : new int[] {-1, MOST + 1}) {
                Check.dueThrow(which + " of litres " + wrong, ARGUMENT, () -> x.beside(at, 0, wrong, 0));
            }
            Check.due(which + " is not there", x.count(2) + x.count(3), 0);
        }
        for (int litres : new int[] {0, 1, MOST}) {
            duePitHas(0, litres);
            duePitHas(1, litres);
            dueDumpHas(litres);
        }
    }

    /** One's own plan shows how much a pit has: what it gives is judged before the span 3 that is not there. */
    private static void duePitHas(int pit, int litres) {
        EarthHauls x = emptyRoad(3);
        x.beside(pit, 1, litres, 0);
        x.lay(4 + pit, 3, litres);
        Check.due("pit " + pit + " gives " + litres, x.judge(), litres > 0 ? 6 + 3 : NONE);
        x.lay(4 + pit, 2, 1);
        Check.due("pit " + pit + " gives one more than " + litres, x.judge(), 4 + pit);
    }

    /** What the dump has is judged before the hauls from pits to it, which are not possible. */
    private static void dueDumpHas(int litres) {
        EarthHauls x = emptyRoad(3);
        x.beside(0, 1, 1, 0);
        x.beside(1, 1, MOST, 0);
        x.beside(2, 1, litres, 0);
        x.lay(5, 4, litres);
        Check.due("the dump has " + litres, x.judge(), litres > 0 ? 129 : NONE);
        x.lay(4, 4, 1);
        Check.due("the dump has one more than " + litres, x.judge(), 6 + 4);
    }

    private static void pricesOfPitsAndDump() {
        for (int which = 0; which < 3; which++) {
            EarthHauls x = emptyRoad(3);
            int at = which;
            for (int wrong : new int[] {-1, 1001}) {
                Check.dueThrow(which + " of price " + wrong, ARGUMENT, () -> x.beside(at, 0, 1, wrong));
            }
            Check.due(which + " is not there", x.count(2) + x.count(3), 0);
            for (int price : new int[] {0, 1, 1000}) {
                x.beside(which, 1, 1, price);
                Check.due(which + " at price " + price, which < 2 ? x.cost(4 + which, 0) : x.cost(0, 4), 30 + price);
                Check.due(which + " within its span", which < 2 ? x.cost(4 + which, 1) : x.cost(1, 4), price);
            }
            x.set(1, 0);
            Check.due(which + " at rate 0", which < 2 ? x.cost(4 + which, 0) : x.cost(0, 4), 1000);
        }
    }

    private static void bothThere() {
        for (int stations = 0; stations <= 5; stations++) {
            for (int there = 0; there < (stations < 2 ? 1 : 8); there++) {
                EarthHauls x = emptyRoad(stations);
                for (int which = 0; which < 3; which++) {
                    if ((there >> which & 1) == 1) {
                        x.beside(which, 0, 0, 0);
                    }
                }
                dueHaulsOfThose(x, stations - 1, there);
            }
        }
    }

    private static void dueHaulsOfThose(EarthHauls x, int spans, int there) {
        for (int source = 0; source < 6; source++) {
            for (int sink = 0; sink < 5; sink++) {
                boolean from = source < 4 ? source < spans : (there >> (source - 4) & 1) == 1;
                boolean to = sink < 4 ? sink < spans : (there >> 2 & 1) == 1;
                boolean possible = from && to && (source < 4 || sink < 4);
                boolean got = x.cost(source, sink) != NONE;
                Check.due(spans + " spans, beside " + there + ": " + source + " to " + sink,
                        got ? 1 : 0, possible ? 1 : 0);
            }
        }
    }

    private static void notFromAPitToTheDump() {
        EarthHauls x = emptyRoad(2);
        x.beside(0, 0, MOST, 0);
        x.beside(1, 0, MOST, 0);
        x.beside(2, 0, MOST, 0);
        Check.due("pit 0 to the dump of the same span", x.cost(4, 4), NONE);
        Check.due("pit 1 to the dump of the same span", x.cost(5, 4), NONE);
        Check.due("the span, to itself, to the dump, and from each pit", x.count(4), 4);
        x.lay(4, 4, 1);
        Check.due("it costs nothing", x.worth(), 0);
        Check.due("it is judged", x.judge(), 124);
        x.lay(4, 4, 0);
        x.lay(5, 4, 1);
        Check.due("and that of pit 1", x.judge(), 129);
    }

    private static void wayWithinOneSpan() {
        EarthHauls x = emptyRoad(5);
        x.set(1, 100);
        for (int span = 0; span < 4; span++) {
            x.beside(0, span, 0, 7);
            x.beside(2, span, 0, 8);
            Check.due("within span " + span, x.cost(span, span), 0);
            Check.due("from its pit", x.cost(4, span), 7);
            Check.due("to its dump", x.cost(span, 4), 8);
        }
    }

    private static void wayOfBothSpansAndBetween() {
        EarthHauls x = flatRoad(new int[] {1, 100, 7, 50}, 0, 0, 0, 0, 0);
        int[][] want = {{0, 101, 208, 265}, {101, 0, 107, 164}, {208, 107, 0, 57}, {265, 164, 57, 0}};
        for (int from = 0; from < 4; from++) {
            for (int to = 0; to < 4; to++) {
                Check.due("way from " + from + " to " + to, x.cost(from, to), want[from][to]);
            }
        }
        EarthHauls longest = flatRoad(new int[] {100, 100, 100, 100}, 0, 0, 0, 0, 0);
        longest.set(1, 100);
        longest.beside(0, 0, 0, 1000);
        Check.due("the dearest litre", longest.cost(4, 3), 61000);
    }

    private static void noPitHasMoreThanItsLitres() {
        for (int pit = 0; pit < 2; pit++) {
            EarthHauls x = flatRoad(new int[] {10}, -1, -1);
            x.beside(pit, 0, 1999, 2);
            Check.due("pit " + pit + " is one litre short", x.solve(), NONE);
            x.beside(pit, 0, 2000, 2);
            Check.due("pit " + pit + " has just enough", x.solve(), 4000);
            Check.due("all of it", x.hauled(4 + pit, 0), 2000);
            Check.due("and no more", x.more(0, false), NONE);
            x.beside(pit, 0, 2001, 2);
            Check.due("pit " + pit + " has one more", x.more(0, false), 2);
            x.beside(1 - pit, 0, 500, 1);
            Check.due("the cheaper pit first", x.solve(), 500 + 1500 * 2);
            Check.due("as much as it has", x.hauled(5 - pit, 0), 500);
        }
    }

    private static void theDumpHasNoMoreThanItsLitres() {
        EarthHauls x = flatRoad(new int[] {10}, 1, 1);
        x.beside(2, 0, 1999, 2);
        Check.due("the dump is one litre short", x.solve(), NONE);
        x.beside(2, 0, 2000, 2);
        Check.due("the dump has just enough", x.solve(), 4000);
        Check.due("all of it", x.hauled(0, 4), 2000);
        Check.due("and no more", x.more(0, true), NONE);
        x.beside(2, 0, 2001, 2);
        Check.due("the dump has one more", x.more(0, true), 2);
    }

    private static void allGoesAndComes() {
        Check.due("no road", new EarthHauls().solve(), 0);
        Check.due("one station", emptyRoad(1).solve(), 0);
        Check.due("nothing to haul", emptyRoad(5).solve(), 0);
        for (int span = 0; span < 4; span++) {
            for (int sign : new int[] {1, -1}) {
                // 3 litres of cut or of fill in this span and, but for the first one, in the span before it.
                EarthHauls x = new EarthHauls();
                for (int i = 0; i < 5; i++) {
                    x.station(i == 0 ? 0 : 1, i == span ? sign : 0, 0, 0, 101);
                }
                int litres = span == 0 ? 3 : 6;
                Check.due("with nothing beside span " + span, x.solve(), NONE);
                x.beside(sign > 0 ? 2 : 0, span, litres - 1, 1);
                Check.due("with one litre too few beside span " + span, x.solve(), NONE);
                x.beside(sign > 0 ? 2 : 0, span, litres, 1);
                Check.due("with enough beside span " + span, x.solve(), span == 0 ? 3 : 3 + 3 * (2 + 1));
            }
        }
    }

    private static void leastCostBeforeTheSum() {
        EarthHauls x = flatRoad(new int[] {10}, -1, -1);
        x.beside(0, 0, MOST, 1000);
        x.beside(1, 0, MOST, 999);
        Check.due("2^25 and cheaper by 1", x.hauled(5, 0), 2000);
        x.beside(1, 0, MOST, 1000);
        Check.due("2^20 of equal cost", x.hauled(4, 0), 2000);
        Check.due("nothing from pit 1", x.hauled(5, 0), 0);
        Check.due("their cost", x.solve(), 2000000);
    }

    private static void leastSumOfSeveral() {
        // Span 1 fills itself and lets litres by: 2^2 + 2^6 is less than 2^1 + 2^7.
        EarthHauls x = new EarthHauls();
        x.station(0, 40, 40, 40, 1010);
        x.station(10, 0, 0, 0, 1010);
        x.station(10, 30, 0, -30, 1010);
        x.station(10, -40, -40, -40, 1010);
        dueHauled(x, new int[][] {{0, 2, 40000}, {1, 1, 7500}, {2, 2, 7500}});
        Check.due("its cost", x.solve(), 40000L * 40);
        // The other way about: 2^10 + 2^6 is less than 2^11 + 2^5.
        EarthHauls y = new EarthHauls();
        y.station(0, -40, -40, -40, 1010);
        y.station(10, 30, 0, -30, 1010);
        y.station(10, 0, 0, 0, 1010);
        y.station(10, 40, 40, 40, 1010);
        dueHauled(y, new int[][] {{0, 0, 7500}, {1, 1, 7500}, {2, 0, 40000}});
        // Two to two: 2^3 + 2^7 is less than 2^2 + 2^8.
        EarthHauls z = flatRoad(new int[] {10, 10, 10, 10}, 40, 40, 0, -40, -40);
        dueHauled(z, new int[][] {{0, 3, 80000}, {1, 2, 40000}});
        // At rate 0 also to the dump and from a pit: 2^4 + 2^20 is more than 2^0.
        EarthHauls w = new EarthHauls();
        w.station(0, 10, 0, -10, 1010);
        w.station(10, 10, 0, -10, 1010);
        w.beside(0, 0, MOST, 0);
        w.beside(2, 0, MOST, 0);
        w.set(1, 0);
        dueHauled(w, new int[][] {{0, 0, 5000}});
    }

    private static void dueHauled(EarthHauls x, int[][] hauls) {
        int[][] want = new int[6][5];
        for (int[] haul : hauls) {
            want[haul[0]][haul[1]] = haul[2];
        }
        for (int source = 0; source < 6; source++) {
            for (int sink = 0; sink < 5; sink++) {
                Check.due("hauled(" + source + ", " + sink + ")", x.hauled(source, sink), want[source][sink]);
            }
        }
    }

    private static void curveOfTheFirstStation() {
        EarthHauls x = flatRoad(new int[] {1, 1}, 100, 100, -100);
        Check.due("nothing is before station 0", x.curve(0), 0);
        Check.due("span 0 is before station 1", x.curve(1), 20000);
        Check.due("spans 0 and 1 are before station 2", x.curve(2), 20000);
        x.set(0, 500);
        Check.due("what is placed, not what is cut", x.curve(1), 10000);
        Check.due("less all the fill", x.curve(2), 10000 + 5000 - 10000);
    }
}
