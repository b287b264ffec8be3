/** The boundary cases of the answers, promises 10 to 18: NONE, 0, those that are not there, and what comes first. */
final class AnswersEdgesTest {
    private static final int NONE = EarthHauls.NONE;
    private static final int BIG = Integer.MAX_VALUE;
    private static final int SMALL = Integer.MIN_VALUE;
    private static final int MOST = 100000000;

    private AnswersEdgesTest() {
    }

    public static void main(String[] args) {
        balanceOfFewStations();
        balanceAtZeroAndNextToIt();
        balanceFromNextToZero();
        balanceStaysOnOneSide();
        costNoneAndZero();
        solveNoneAndZero();
        solveNoneForOneSpan();
        hauledZero();
        moreThatIsOrdinaryMinusOne();
        moreThatIsZero();
        moreWithNoPlanNow();
        moreWithNoPlanThen();
        moreWithNoPlanThenThoughLessIsHauled();
        moreWithAPlanOnlyThen();
        moreChangesNothing();
        judgeNone();
        judgeEachSource();
        judgeEachSink();
        judgeSourcesNotThere();
        judgeSinksNotThere();
        judgeHaulsOverBorders();
        judgeHaulsFromPitsToTheDump();
        judgeTheFirstOfSeveral();
        judgeTheMostLitres();
        worthEdges();
        excessNoneAndZero();
        layEdges();
        countEdges();
        Check.end();
    }

    private static EarthHauls flatRoad(int widths, int[] lengths, int... heights) {
        EarthHauls x = new EarthHauls();
        for (int i = 0; i < heights.length; i++) {
            x.station(i == 0 ? 0 : lengths[i - 1], heights[i], heights[i], heights[i], widths);
        }
        return x;
    }

    private static EarthHauls emptyRoad(int stations) {
        return flatRoad(101, new int[] {10, 10, 10, 10}, new int[stations]);
    }

    /** Each span of this road has 5 litres a metre of cut and of fill: 50 and 50. */
    private static EarthHauls evenRoad(int stations) {
        EarthHauls x = new EarthHauls();
        for (int i = 0; i < stations; i++) {
            x.station(i == 0 ? 0 : 10, 1, 0, -1, 101);
        }
        return x;
    }

    private static void layWithinSpans(EarthHauls x, int spans) {
        for (int span = 0; span < spans; span++) {
            x.lay(span, span, 50);
        }
    }

    private static void dueBalance(String when, EarthHauls x, int... want) {
        for (int i = 0; i < want.length; i++) {
            Check.due(when + " balance(" + i + ")", x.balance(i), want[i]);
        }
        for (int i : new int[] {want.length, want.length + 1, 5, 6, -1, -2, BIG, SMALL}) {
            Check.due(when + " balance(" + i + ")", x.balance(i), NONE);
        }
    }

    private static void balanceOfFewStations() {
        dueBalance("no station:", new EarthHauls());
        dueBalance("one station:", flatRoad(101, new int[0], 9), 0);
        dueBalance("two stations, cut:", flatRoad(101, new int[] {1}, 9, 9), 0);
        dueBalance("two stations, fill:", flatRoad(101, new int[] {1}, -9, -9), 0);
        dueBalance("two stations, nothing:", emptyRoad(2), 0, 1);
        dueBalance("five stations, nothing:", emptyRoad(5), 0, 1, 2, 3, 4);
    }

    private static void balanceAtZeroAndNextToIt() {
        EarthHauls down = flatRoad(101, new int[] {1, 1}, 1, 0, -1);
        dueBalance("0, 10, 0:", down, 0, 2);
        down.set(0, 999);
        Check.due("just below 0", down.curve(2), -1);
        dueBalance("0, 9, -1:", down, 0, 2);
        EarthHauls up = flatRoad(101, new int[] {1, 2}, -1, 0, 1);
        up.set(0, 550);
        Check.due("just over 0", up.curve(2), 1);
        dueBalance("0, -10, 1:", up, 0, 2);
        up.set(0, 549);
        dueBalance("0, -10, 0:", up, 0, 2);
        up.set(0, 500);
        dueBalance("0, -10, 0 again:", up, 0, 2);
        EarthHauls under = flatRoad(101, new int[] {2, 1}, -1, 0, 1);
        dueBalance("0, -20, -10:", under, 0);
        EarthHauls over = flatRoad(101, new int[] {2, 1}, 1, 0, -1);
        dueBalance("0, 20, 10:", over, 0);
    }

    private static void balanceFromNextToZero() {
        EarthHauls down = new EarthHauls();
        down.station(0, 2, 0, -1, 101);
        down.station(2, 2, 0, -1, 101);
        down.station(1, 0, 0, -3, 101);
        down.set(0, 550);
        Check.due("just over 0", down.curve(1), 1);
        dueBalance("0, 1, -7:", down, 0, 2);
        EarthHauls up = new EarthHauls();
        up.station(0, 1, 0, -1, 101);
        up.station(2, 1, 0, -1, 101);
        up.station(1, 10, 10, 10, 101);
        up.set(0, 999);
        Check.due("just below 0", up.curve(1), -1);
        dueBalance("0, -1, 98:", up, 0, 2);
    }

    private static void balanceStaysOnOneSide() {
        // From 0 to a side is no change of sides, and neither is more or less on one side.
        dueBalance("0, 10, 0, -10, -20:", flatRoad(101, new int[] {1, 1, 1, 1}, 1, 0, -1, 0, -1), 0, 2);
        dueBalance("0, -10, 0, 10, 20:", flatRoad(101, new int[] {1, 1, 1, 1}, -1, 0, 1, 0, 1), 0, 2);
        dueBalance("0, 20, 10, 30, 10:", flatRoad(101, new int[] {2, 1, 2, 2}, 1, 0, -1, 2, -3), 0);
        dueBalance("0, 10, -10, -30, -10:", flatRoad(101, new int[] {1, 2, 2, 2}, 1, 0, -1, 0, 1), 0, 2);
        dueBalance("0, 10, -10, 10, -10:", flatRoad(101, new int[] {1, 2, 1, 1}, 1, 0, -1, 3, -5), 0, 2, 3, 4);
    }

    private static void costNoneAndZero() {
        EarthHauls x = emptyRoad(3);
        x.set(1, 0);
        Check.due("a haul that costs nothing", x.cost(0, 1), 0);
        Check.due("a span that is not there", x.cost(2, 0), NONE);
        Check.due("the span behind", x.cost(0, 2), NONE);
        Check.due("no pit 0", x.cost(4, 0), NONE);
        Check.due("no pit 1", x.cost(5, 0), NONE);
        Check.due("no dump", x.cost(0, 4), NONE);
        Check.due("neither pit nor dump", x.cost(5, 4), NONE);
        x.beside(0, 0, 0, 0);
        x.beside(2, 0, 0, 0);
        Check.due("an empty pit", x.cost(4, 0), 0);
        Check.due("a dump with no room", x.cost(0, 4), 0);
        Check.due("from the pit to the dump", x.cost(4, 4), NONE);
        x.border(0, true);
        Check.due("over a closed border", x.cost(0, 1), NONE);
        Check.due("from the pit over it", x.cost(4, 1), NONE);
        Check.due("to the dump over it", x.cost(1, 4), NONE);
        x.border(0, false);
        Check.due("open again", x.cost(0, 1), 0);
    }

    private static void solveNoneAndZero() {
        Check.due("no road", new EarthHauls().solve(), 0);
        EarthHauls x = evenRoad(5);
        Check.due("each span by itself", x.solve(), 0);
        for (int k = 0; k < 3; k++) {
            x.border(k, true);
        }
        Check.due("each span by itself, all closed", x.solve(), 0);
        x.set(0, 999);
        Check.due("what shrank is missing", x.solve(), NONE);
        x.set(0, 1000);
        Check.due("it is not missing", x.solve(), 0);
        EarthHauls cut = flatRoad(101, new int[] {1}, 1, 1);
        Check.due("cut with no place to go", cut.solve(), NONE);
        cut.beside(0, 0, MOST, 0);
        Check.due("a pit does not take it", cut.solve(), NONE);
        cut.beside(2, 0, MOST, 0);
        Check.due("a dump takes it for nothing", cut.solve(), 0);
        EarthHauls fill = flatRoad(101, new int[] {1}, -1, -1);
        Check.due("fill from nowhere", fill.solve(), NONE);
        fill.beside(2, 0, MOST, 0);
        Check.due("a dump does not give it", fill.solve(), NONE);
        fill.beside(1, 0, MOST, 0);
        Check.due("a pit gives it for nothing", fill.solve(), 0);
    }

    /** All borders are closed, and all that is short or left over is so in one span. */
    private static void solveNoneForOneSpan() {
        for (int span = 0; span < 4; span++) {
            for (int sign : new int[] {1, -1}) {
                int[] heights = new int[5];
                int high = span < 3 ? span : 4;
                heights[high] = sign;
                EarthHauls x = flatRoad(101, new int[] {1, 1, 1, 1}, heights);
                for (int k = 0; k < 3; k++) {
                    x.border(k, true);
                }
                int which = sign > 0 ? 2 : 0;
                x.beside(which, span == 0 || span == 3 ? 1 : span - 1, MOST, 1);
                Check.due("span " + span + " alone", x.solve(), NONE);
                x.beside(which, span, MOST, 1);
                Check.due("beside span " + span, x.solve(), span == 0 || span == 3 ? 10 : NONE);
            }
        }
    }

    private static void dueHauledNothing(String when, EarthHauls x) {
        for (int source = 0; source < 6; source++) {
            for (int sink = 0; sink < 5; sink++) {
                Check.due(when + " hauled(" + source + ", " + sink + ")", x.hauled(source, sink), 0);
            }
        }
    }

    private static void hauledZero() {
        dueHauledNothing("no road:", new EarthHauls());
        dueHauledNothing("nothing to haul:", emptyRoad(5));
        EarthHauls x = flatRoad(1010, new int[] {10, 10}, 40, 0, -40);
        Check.due("a plan", x.hauled(0, 1), 40000);
        Check.due("a haul that it does not use", x.hauled(0, 0), 0);
        Check.due("from a pit that is not there", x.hauled(4, 1), 0);
        x.border(0, true);
        dueHauledNothing("no plan any more:", x);
        x.beside(0, 1, 40000, 0);
        dueHauledNothing("no plan still, though fill could come:", x);
        x.beside(2, 0, 40000, 0);
        Check.due("over the closed border", x.hauled(0, 1), 0);
        Check.due("to the dump", x.hauled(0, 4), 40000);
        Check.due("from the pit", x.hauled(4, 1), 40000);
        Check.due("from the pit to the dump", x.hauled(4, 4), 0);
    }

    private static void moreThatIsOrdinaryMinusOne() {
        EarthHauls fill = flatRoad(101, new int[] {1}, -1, -1);
        fill.beside(0, 0, 20, 1);
        Check.due("there is a plan", fill.solve(), 20);
        Check.due("a litre less from the pit", fill.more(0, true), -1);
        EarthHauls cut = flatRoad(101, new int[] {1}, 1, 1);
        cut.beside(2, 0, 20, 1);
        Check.due("there is a plan as well", cut.solve(), 20);
        Check.due("a litre less to the dump", cut.more(0, false), -1);
        // The way of one litre more may turn others back: 9 to the dump of span 0, and 10 less from there to span 1.
        EarthHauls turned = flatRoad(101, new int[] {9, 1}, 1, 0, -9);
        turned.beside(2, 0, 100, 9);
        Check.due("all of it is hauled", turned.solve(), 90L * 10);
        Check.due("9 more and 10 less", turned.more(1, true), -1);
    }

    private static void moreThatIsZero() {
        EarthHauls x = emptyRoad(2);
        x.beside(0, 0, 1, 0);
        x.beside(2, 0, 1, 0);
        Check.due("fill for nothing", x.more(0, false), 0);
        Check.due("cut for nothing", x.more(0, true), 0);
    }

    private static void moreWithNoPlanNow() {
        EarthHauls x = flatRoad(101, new int[] {1, 1}, 1, 0, 0);
        for (int span = 0; span < 2; span++) {
            Check.due("no plan now, none then, fill", x.more(span, false), NONE);
            Check.due("no plan now, none then, cut", x.more(span, true), NONE);
        }
    }

    private static void moreWithNoPlanThen() {
        EarthHauls x = evenRoad(3);
        Check.due("a plan now", x.solve(), 0);
        Check.due("none with more cut", x.more(0, true), NONE);
        Check.due("none with more fill", x.more(1, false), NONE);
        x.beside(0, 0, 0, 5);
        x.beside(2, 1, 0, 6);
        Check.due("an empty pit does not help", x.more(1, false), NONE);
        Check.due("nor a full dump", x.more(0, true), NONE);
        x.beside(0, 0, 1, 5);
        x.beside(2, 1, 1, 6);
        Check.due("a litre in the pit does", x.more(1, false), 20 + 5);
        Check.due("and room for a litre", x.more(0, true), 20 + 6);
        x.border(0, true);
        Check.due("not over a closed border", x.more(1, false), NONE);
        Check.due("nor to the dump behind it", x.more(0, true), NONE);
        Check.due("on this side of it", x.more(0, false), 5);
        Check.due("and on that", x.more(1, true), 6);
    }

    private static void moreWithNoPlanThenThoughLessIsHauled() {
        // A litre more beside the other end would spare its whole way, but then one is left over or missing.
        EarthHauls x = flatRoad(1010, new int[] {100, 100, 100}, 40, 0, 0, -40);
        x.set(1, 100);
        Check.due("a plan now", x.solve(), 400000L * 40000);
        for (int span = 0; span < 3; span++) {
            Check.due("none with more fill of span " + span, x.more(span, false), NONE);
            Check.due("none with more cut of span " + span, x.more(span, true), NONE);
        }
    }

    private static void moreWithAPlanOnlyThen() {
        // 20 litres of fill, and a pit with 19: one litre more of cut would do, but there is no plan now.
        EarthHauls fill = flatRoad(101, new int[] {1}, -1, -1);
        fill.beside(0, 0, 19, 1);
        Check.due("fill is one short", fill.solve(), NONE);
        Check.due("a plan only then, by cut", fill.more(0, true), NONE);
        EarthHauls cut = flatRoad(101, new int[] {1}, 1, 1);
        cut.beside(2, 0, 19, 1);
        Check.due("the dump is one short", cut.solve(), NONE);
        Check.due("a plan only then, by fill", cut.more(0, false), NONE);
    }

    private static void moreChangesNothing() {
        EarthHauls x = Scene.made(Scene.ALL_THERE);
        String before = Look.at(x);
        for (int span = 0; span < 4; span++) {
            x.more(span, true);
            x.more(span, false);
        }
        Look.dueSame("after more", Look.at(x), before);
    }

    private static void judgeNone() {
        Check.due("no road, nothing laid", new EarthHauls().judge(), NONE);
        Check.due("nothing to haul, nothing laid", emptyRoad(5).judge(), NONE);
        EarthHauls x = evenRoad(5);
        layWithinSpans(x, 4);
        Check.due("all within spans", x.judge(), NONE);
        x.beside(0, 0, 0, 0);
        x.beside(2, 0, 0, 0);
        Check.due("a pit and a dump that are not used", x.judge(), NONE);
    }

    private static void judgeEachSource() {
        for (int source = 0; source < 4; source++) {
            for (int litres : new int[] {0, 49, 51}) {
                EarthHauls x = evenRoad(5);
                layWithinSpans(x, 4);
                x.lay(source, source, litres);
                Check.due("span " + source + " sends " + litres, x.judge(), source);
            }
        }
        for (int pit = 0; pit < 2; pit++) {
            EarthHauls x = evenRoad(5);
            layWithinSpans(x, 4);
            x.beside(pit, 0, 0, 0);
            x.lay(4 + pit, 0, 1);
            Check.due("an empty pit " + pit + " gives one", x.judge(), 4 + pit);
            x.beside(pit, 0, 1, 0);
            Check.due("pit " + pit + " gives what it has", x.judge(), 6);
        }
    }

    private static void judgeEachSink() {
        for (int sink = 0; sink < 4; sink++) {
            EarthHauls x = evenRoad(5);
            layWithinSpans(x, 4);
            x.beside(2, 0, 1, 0);
            x.lay(sink, sink, 49);
            x.lay(sink, 4, 1);
            Check.due("one litre too little in span " + sink, x.judge(), 6 + sink);
            EarthHauls y = evenRoad(5);
            layWithinSpans(y, 4);
            y.beside(1, 0, 1, 0);
            y.lay(5, sink, 1);
            Check.due("one litre too much in span " + sink, y.judge(), 6 + sink);
        }
        EarthHauls x = flatRoad(101, new int[] {1}, 1, 1);
        x.lay(0, 4, 20);
        x.beside(2, 0, 19, 0);
        Check.due("one litre too much in the dump", x.judge(), 10);
        x.beside(2, 0, 20, 0);
        Check.due("just as much as the dump has", x.judge(), NONE);
        x.beside(2, 0, 21, 0);
        Check.due("less than the dump has", x.judge(), NONE);
    }

    private static void judgeSourcesNotThere() {
        for (int stations = 0; stations <= 5; stations++) {
            for (int source = Math.max(0, stations - 1); source < 6; source++) {
                for (int sink = 0; sink < 5; sink++) {
                    EarthHauls x = evenRoad(stations);
                    layWithinSpans(x, stations - 1);
                    x.lay(source, sink, 0);
                    Check.due("nothing laid from where nothing is", x.judge(), NONE);
                    x.lay(source, sink, 1);
                    Check.due(stations + " stations, from " + source + " to " + sink, x.judge(), source);
                }
            }
        }
    }

    private static void judgeSinksNotThere() {
        for (int stations = 2; stations <= 5; stations++) {
            for (int sink = stations - 1; sink < 5; sink++) {
                EarthHauls x = evenRoad(stations);
                layWithinSpans(x, stations - 1);
                x.beside(0, 0, 1, 0);
                x.lay(4, sink, 1);
                Check.due(stations + " stations, from a pit to " + sink, x.judge(), 6 + sink);
            }
        }
    }

    /** From span a over a closed border to span b, whose own cut is dumped, while a pit fills span a. */
    private static void judgeHaulsOverBorders() {
        for (int a = 0; a < 4; a++) {
            for (int b = 0; b < 4; b++) {
                if (a != b) {
                    EarthHauls x = closedEvenRoad(a, b);
                    x.lay(a, a, 0);
                    x.lay(b, b, 0);
                    x.lay(a, b, 50);
                    x.lay(b, 4, 50);
                    x.lay(4, a, 50);
                    Check.due("over a border from " + a + " to " + b, x.judge(), 100 + 5 * a + b);
                    EarthHauls toDump = closedEvenRoad(a, b);
                    toDump.lay(a, a, 0);
                    toDump.lay(a, 4, 50);
                    toDump.lay(4, a, 50);
                    Check.due("over a border from " + a + " to the dump", toDump.judge(), 100 + 5 * a + 4);
                    EarthHauls fromPit = closedEvenRoad(a, b);
                    fromPit.lay(b, b, 0);
                    fromPit.lay(b, 4, 50);
                    fromPit.lay(4, b, 50);
                    Check.due("over a border from the pit to " + b, fromPit.judge(), 100 + 5 * 4 + b);
                }
            }
        }
    }

    /** All borders closed, a pit beside one span and a dump beside another, and each span filled by itself. */
    private static EarthHauls closedEvenRoad(int pitSpan, int dumpSpan) {
        EarthHauls x = evenRoad(5);
        for (int k = 0; k < 3; k++) {
            x.border(k, true);
        }
        x.beside(0, pitSpan, 50, 0);
        x.beside(2, dumpSpan, 50, 0);
        layWithinSpans(x, 4);
        Check.due("each span by itself", x.judge(), NONE);
        return x;
    }

    private static void judgeHaulsFromPitsToTheDump() {
        for (int pit = 0; pit < 2; pit++) {
            EarthHauls x = emptyRoad(2);
            x.lay(4 + pit, 4, 1);
            Check.due("neither there", x.judge(), 4 + pit);
            x.beside(2, 0, 1, 0);
            Check.due("the pit is not there", x.judge(), 4 + pit);
            x.beside(pit, 0, 1, 0);
            Check.due("both there", x.judge(), 100 + 5 * (4 + pit) + 4);
            x.beside(2, 0, 0, 0);
            Check.due("the dump has no room", x.judge(), 10);
            x.lay(4 + pit, 4, 0);
            Check.due("no litres", x.judge(), NONE);
        }
    }

    private static void judgeTheFirstOfSeveral() {
        EarthHauls x = closedEvenRoad(0, 0);
        x.beside(1, 3, 1, 0);
        x.lay(5, 4, 1);
        x.beside(2, 0, 1, 0);
        Check.due("a haul that is not possible", x.judge(), 129);
        x.lay(3, 3, 0);
        x.lay(3, 2, 50);
        x.lay(2, 2, 0);
        x.lay(2, 3, 50);
        Check.due("the first source of three hauls", x.judge(), 113);
        x.lay(1, 1, 0);
        x.lay(1, 3, 50);
        x.lay(2, 3, 0);
        x.lay(2, 1, 50);
        Check.due("the first source, though its sink is the last", x.judge(), 108);
        x.lay(1, 3, 49);
        x.lay(1, 2, 1);
        x.lay(3, 2, 49);
        x.lay(3, 3, 1);
        Check.due("the first sink of one source", x.judge(), 107);
        x.lay(5, 4, 0);
        x.lay(5, 3, 1);
        Check.due("a sink comes before hauls", x.judge(), 9);
        x.lay(5, 2, 1);
        Check.due("a source comes before sinks", x.judge(), 5);
        x.lay(4, 4, 51);
        Check.due("the pit before it", x.judge(), 4);
        x.lay(3, 3, 0);
        Check.due("a span before pits", x.judge(), 3);
        x.lay(0, 0, 0);
        Check.due("the first span", x.judge(), 0);
    }

    private static void judgeTheMostLitres() {
        EarthHauls x = new EarthHauls();
        for (int source = 0; source < 6; source++) {
            for (int sink = 0; sink < 5; sink++) {
                x.lay(source, sink, MOST);
            }
        }
        for (int source = 0; source < 6; source++) {
            Check.due("the most from source " + source + " on", x.judge(), source);
            for (int sink = 0; sink < 5; sink++) {
                x.lay(source, sink, 0);
            }
        }
        Check.due("all taken back", x.judge(), NONE);
    }

    private static void worthEdges() {
        EarthHauls x = flatRoad(101, new int[] {100, 100, 100, 100}, 0, 0, 0, 0, 0);
        x.set(1, 100);
        x.beside(0, 0, 0, 1000);
        x.beside(1, 3, 0, 1000);
        x.beside(2, 0, 0, 1000);
        long all = 0;
        for (int source = 0; source < 6; source++) {
            for (int sink = 0; sink < 5; sink++) {
                x.lay(source, sink, MOST);
                all += source > 3 && sink == 4 ? 0 : (long) x.cost(source, sink) * MOST;
            }
        }
        Check.due("the most that a plan costs", x.worth(), all);
        Check.due("it is that much", all, 77200000000000L);
        for (int k = 0; k < 3; k++) {
            x.border(k, true);
        }
        Check.due("only what stays within spans", x.worth(), 3L * 1000 * MOST);
        x.clear();
        Check.due("nothing after clear", x.worth(), 0);
        EarthHauls gone = new EarthHauls();
        gone.lay(0, 1, 7);
        Check.due("no span yet", gone.worth(), 0);
        Scene.complete(gone);
        Check.due("the spans came later", gone.worth(), 7L * gone.cost(0, 1));
    }

    private static void excessNoneAndZero() {
        Check.due("no road: the plan of nothing", new EarthHauls().excess(), 0);
        EarthHauls x = evenRoad(3);
        Check.due("too little laid", x.excess(), NONE);
        layWithinSpans(x, 2);
        Check.due("the plan itself", x.excess(), 0);
        x.lay(0, 0, 0);
        x.lay(1, 1, 0);
        x.lay(0, 1, 50);
        x.lay(1, 0, 50);
        Check.due("all hauled to and fro", x.excess(), 100L * 20);
        x.lay(0, 0, 50);
        Check.due("too much laid", x.excess(), NONE);
        x.lay(0, 0, 0);
        x.border(0, true);
        Check.due("over a closed border", x.excess(), NONE);
        EarthHauls without = flatRoad(101, new int[] {1}, 1, 1);
        without.lay(0, 0, 20);
        Check.due("where there is no plan at all", without.excess(), NONE);
        EarthHauls equal = flatRoad(101, new int[] {1}, -1, -1);
        equal.beside(0, 0, 20, 4);
        equal.beside(1, 0, 20, 4);
        equal.lay(5, 0, 20);
        Check.due("another one of equal cost", equal.excess(), 0);
        equal.beside(0, 0, 1, 3);
        Check.due("dearer by 1", equal.excess(), 1);
    }

    private static void layEdges() {
        EarthHauls x = emptyRoad(3);
        x.lay(0, 1, MOST);
        Check.due("the most litres", x.worth(), 20L * MOST);
        for (int wrong : new int[] {-1, MOST + 1}) {
            Check.dueThrow("lay " + wrong, IllegalArgumentException.class, () -> x.lay(0, 1, wrong));
        }
        Check.due("as before", x.worth(), 20L * MOST);
        x.lay(0, 1, 1);
        Check.due("in place of what was laid", x.worth(), 20);
        x.lay(0, 1, 0);
        Check.due("none", x.worth(), 0);
        for (int source : new int[] {-1, 6}) {
            Check.dueThrow("lay from " + source, IndexOutOfBoundsException.class, () -> x.lay(source, 0, 1));
        }
        for (int sink : new int[] {-1, 5}) {
            Check.dueThrow("lay to " + sink, IndexOutOfBoundsException.class, () -> x.lay(0, sink, 1));
        }
        x.lay(5, 4, 1);
        Check.due("the last haul", x.judge(), 5);
        x.station(10, 5, 5, 5, 101);
        Check.due("what is laid stays", x.worth() + x.judge(), 2);
    }

    private static void countEdges() {
        EarthHauls x = emptyRoad(5);
        Check.due("open borders", x.count(1), 3);
        for (int k = 0; k < 3; k++) {
            x.border(k, true);
            Check.due("closed up to " + k, x.count(1), 2 - k);
        }
        Check.due("hauls within spans", x.count(4), 4);
        x.beside(0, 0, 0, 0);
        x.beside(0, 1, 0, 0);
        Check.due("pit 0 in place of pit 0", x.count(2), 1);
        x.beside(2, 3, 0, 0);
        x.beside(2, 2, 0, 0);
        Check.due("the dump in place of the dump", x.count(3), 1);
        Check.due("a haul from the pit and one to the dump", x.count(4), 6);
        x.beside(1, 2, 0, 0);
        Check.due("pits, but none to the dump", x.count(2) + 10 * x.count(4), 2 + 70);
    }
}
