/**
 * Every call that names exceptions, in every scene: each argument right and wrong by itself and together with the
 * others; the exception that is due is the one named first, and a look at all answers is as if nothing was called.
 */
final class RefusedTest {
    private static final Class<IllegalArgumentException> ARGUMENT = IllegalArgumentException.class;
    private static final Class<IllegalStateException> STATE = IllegalStateException.class;
    private static final Class<IndexOutOfBoundsException> INDEX = IndexOutOfBoundsException.class;
    private static final int BIG = Integer.MAX_VALUE;
    private static final int SMALL = Integer.MIN_VALUE;
    private static final int MOST = 100000000;

    private static final int[] WHICH = {0, 1, 2, -1, 3, BIG, SMALL};
    private static final int[] LITRES = {0, MOST, -1, MOST + 1, BIG, SMALL};
    private static final int[] PRICES = {0, 1000, -1, 1001, BIG, SMALL};
    private static final int[] SOURCES = {0, 3, 4, 5, -1, 6, BIG, SMALL};
    private static final int[] SINKS = {0, 3, 4, -1, 5, BIG, SMALL};
    private static final int[] LENGTHS = {0, 1, 100, -1, 101, BIG, SMALL};
    private static final int[] HEIGHTS = {-100, 100, -101, 101, BIG, SMALL};
    private static final int[] WIDTHS = {101, 5050, 0, 100, 51, 151, 5051, 5101, -101, BIG, SMALL};

    private final Scene scene;
    private final int stations;
    private final String before;
    private final String completed;

    private RefusedTest(Scene scene) {
        this.scene = scene;
        EarthHauls x = Scene.made(scene);
        stations = x.count(0);
        before = Look.at(x);
        Scene.complete(x);
        completed = Look.at(x);
    }

    public static void main(String[] args) {
        for (Scene scene : Scene.values()) {
            RefusedTest test = new RefusedTest(scene);
            test.stationLengths();
            test.stationHeights();
            test.stationWidths();
            test.stationTwoWrong();
            test.set();
            test.border();
            test.beside();
            test.areaAndCurve();
            test.litresAndMore();
            test.costAndHauled();
            test.lay();
            test.count();
        }
        Check.end();
    }

    /** The call on the scene must throw this, or nothing when it is null; when it throws, all looks as before. */
    private void due(String call, Class<? extends RuntimeException> want, java.util.function.Consumer<EarthHauls> deed) {
        String what = scene + ": " + call;
        EarthHauls x = Scene.made(scene);
        if (want == null) {
            Check.dueThrowsNothing(what, () -> deed.accept(x));
            return;
        }
        Check.dueThrow(what, want, () -> deed.accept(x));
        Look.dueSame("after " + what, Look.at(x), before);
        // The plan is known by now, which is another way through the program.
        Check.dueThrow(what + " again", want, () -> deed.accept(x));
        Scene.complete(x);
        Look.dueSame("after " + what + " and all stations", Look.at(x), completed);
    }

    private Class<? extends RuntimeException> stationDue(int length, int left, int middle, int right, int widths) {
        boolean fits = isIn(length, stations == 0 ? 0 : 1, stations == 0 ? 0 : 100)
                && isIn(left, -100, 100) && isIn(middle, -100, 100) && isIn(right, -100, 100)
                && isIn(widths, 101, 5050) && isIn(widths % 100, 1, 50);
        return !fits ? ARGUMENT : stations == 5 ? STATE : null;
    }

    private void station(int length, int left, int middle, int right, int widths) {
        due("station(" + length + ", " + left + ", " + middle + ", " + right + ", " + widths + ")",
                stationDue(length, left, middle, right, widths), x -> x.station(length, left, middle, right, widths));
    }

    private int goodLength() {
        return stations == 0 ? 0 : 50;
    }

    private void stationLengths() {
        for (int length : LENGTHS) {
            station(length, 1, 2, 3, 101);
        }
    }

    private void stationHeights() {
        for (int height : HEIGHTS) {
            station(goodLength(), height, 2, 3, 101);
            station(goodLength(), 1, height, 3, 101);
            station(goodLength(), 1, 2, height, 101);
        }
    }

    private void stationWidths() {
        for (int widths : WIDTHS) {
            station(goodLength(), 1, 2, 3, widths);
        }
    }

    private void stationTwoWrong() {
        station(-1, 101, 2, 3, 101);
        station(101, 1, -101, 3, 101);
        station(-1, 1, 2, 101, 101);
        station(101, 1, 2, 3, 100);
        station(goodLength(), 101, -101, 3, 101);
        station(goodLength(), 101, 2, -101, 101);
        station(goodLength(), 101, 2, 3, 5051);
        station(goodLength(), 1, 101, 101, 101);
        station(goodLength(), 1, 101, 3, 0);
        station(goodLength(), 1, 2, -101, 151);
        station(-1, -101, 101, -101, 0);
    }

    private void set() {
        for (int what : new int[] {0, 1, -1, 2, BIG, SMALL}) {
            for (int v : new int[] {-1, 0, 1, 100, 101, 499, 500, 1000, 1001, BIG, SMALL}) {
                boolean fits = what == 0 && isIn(v, 500, 1000) || what == 1 && isIn(v, 0, 100);
                due("set(" + what + ", " + v + ")", fits ? null : ARGUMENT, x -> x.set(what, v));
            }
        }
    }

    private void border() {
        boolean[] closedNow = {
            scene == Scene.TWO_SPANS_BORDER_CLOSED || scene == Scene.ALL_THERE_BORDERS_CLOSED,
            false,
            scene == Scene.ALL_THERE_BORDERS_CLOSED};
        for (int k : new int[] {0, 1, 2, 3, 4, -1, BIG, SMALL}) {
            for (boolean closed : new boolean[] {true, false}) {
                boolean there = isIn(k, 0, stations - 3);
                due("border(" + k + ", " + closed + ")",
                        !there ? INDEX : closedNow[k] == closed ? STATE : null, x -> x.border(k, closed));
            }
        }
    }

    private int[] spans() {
        return new int[] {stations - 2, stations - 1, 0, -1, 4, BIG, SMALL};
    }

    private boolean isSpan(int span) {
        return isIn(span, 0, stations - 2);
    }

    private void beside() {
        for (int which : WHICH) {
            for (int span : spans()) {
                for (int litres : LITRES) {
                    for (int price : PRICES) {
                        boolean somewhere = isIn(which, 0, 2) && isSpan(span);
                        boolean fits = isIn(litres, 0, MOST) && isIn(price, 0, 1000);
                        due("beside(" + which + ", " + span + ", " + litres + ", " + price + ")",
                                !somewhere ? INDEX : !fits ? ARGUMENT : null,
                                x -> x.beside(which, span, litres, price));
                    }
                }
            }
        }
    }

    private void areaAndCurve() {
        for (int station : new int[] {0, stations - 1, stations, -1, 5, BIG, SMALL}) {
            boolean there = isIn(station, 0, stations - 1);
            for (int what : new int[] {0, 3, -1, 4, BIG, SMALL}) {
                due("area(" + station + ", " + what + ")",
                        !there ? INDEX : !isIn(what, 0, 3) ? ARGUMENT : null, x -> x.area(station, what));
            }
            due("curve(" + station + ")", there ? null : INDEX, x -> x.curve(station));
        }
    }

    private void litresAndMore() {
        for (int span : spans()) {
            for (int what : new int[] {0, 2, -1, 3, BIG, SMALL}) {
                due("litres(" + span + ", " + what + ")",
                        !isSpan(span) ? INDEX : !isIn(what, 0, 2) ? ARGUMENT : null, x -> x.litres(span, what));
            }
            due("more(" + span + ", true)", isSpan(span) ? null : INDEX, x -> x.more(span, true));
            due("more(" + span + ", false)", isSpan(span) ? null : INDEX, x -> x.more(span, false));
        }
    }

    private void costAndHauled() {
        for (int source : SOURCES) {
            for (int sink : SINKS) {
                boolean pair = isIn(source, 0, 5) && isIn(sink, 0, 4);
                due("cost(" + source + ", " + sink + ")", pair ? null : INDEX, x -> x.cost(source, sink));
                due("hauled(" + source + ", " + sink + ")", pair ? null : INDEX, x -> x.hauled(source, sink));
            }
        }
    }

    private void lay() {
        for (int source : SOURCES) {
            for (int sink : SINKS) {
                for (int litres : LITRES) {
                    boolean pair = isIn(source, 0, 5) && isIn(sink, 0, 4);
                    due("lay(" + source + ", " + sink + ", " + litres + ")",
                            !pair ? INDEX : !isIn(litres, 0, MOST) ? ARGUMENT : null,
                            x -> x.lay(source, sink, litres));
                }
            }
        }
    }

    private void count() {
        for (int what : new int[] {0, 4, -1, 5, BIG, SMALL}) {
            due("count(" + what + ")", isIn(what, 0, 4) ? null : ARGUMENT, x -> x.count(what));
        }
    }

    private static boolean isIn(int number, int low, int high) {
        return low <= number && number <= high;
    }
}
