/** All that an object answers without being changed, told as one text; it takes 119 calls. */
final class Look {
    private static final int STATIONS = 5;
    private static final int SPANS = 4;
    private static final int SOURCES = 6;
    private static final int SINKS = 5;

    private final StringBuilder text = new StringBuilder();

    private Look() {
    }

    static String at(EarthHauls x) {
        Look look = new Look();
        look.road(x);
        look.hauls(x);
        look.plans(x);
        return look.text.toString();
    }

    /** Counts it as wrong when the two looks differ, and prints the first line in which they do. */
    static void dueSame(String when, String got, String want) {
        String[] gotLines = got.split("\n");
        String[] wantLines = want.split("\n");
        Check.due(when + ": lines of a look", gotLines.length, wantLines.length);
        for (int i = 0; i < Math.min(gotLines.length, wantLines.length); i++) {
            if (!gotLines[i].equals(wantLines[i])) {
                Check.dueSame(when, gotLines[i], wantLines[i]);
                return;
            }
        }
    }

    private void road(EarthHauls x) {
        for (int what = 0; what < 5; what++) {
            int w = what;
            add("count", what, 0, () -> x.count(w));
        }
        for (int station = 0; station < STATIONS; station++) {
            int s = station;
            for (int what = 0; what < 4; what++) {
                int w = what;
                add("area", station, what, () -> x.area(s, w));
            }
            add("curve", station, 0, () -> x.curve(s));
            add("balance", station, 0, () -> x.balance(s));
        }
        for (int span = 0; span < SPANS; span++) {
            int s = span;
            for (int what = 0; what < 3; what++) {
                int w = what;
                add("litres", span, what, () -> x.litres(s, w));
            }
        }
    }

    private void hauls(EarthHauls x) {
        for (int source = 0; source < SOURCES; source++) {
            for (int sink = 0; sink < SINKS; sink++) {
                int a = source;
                int b = sink;
                add("cost", source, sink, () -> x.cost(a, b));
                add("hauled", source, sink, () -> x.hauled(a, b));
            }
        }
    }

    private void plans(EarthHauls x) {
        for (int span = 0; span < SPANS; span++) {
            int s = span;
            add("more of fill", span, 0, () -> x.more(s, false));
            add("more of cut", span, 1, () -> x.more(s, true));
        }
        add("solve", 0, 0, x::solve);
        add("judge", 0, 0, x::judge);
        add("worth", 0, 0, x::worth);
        add("excess", 0, 0, x::excess);
    }

    private void add(String name, int a, int b, Check.Call call) {
        text.append(name).append(' ').append(a).append(' ').append(b).append(": ").append(Check.told(call)).append('\n');
    }
}
