/** Promises 1 and 2: after clear each call answers as on a new object, whatever was called before. */
final class ClearTest {
    private static final String NEW = Look.at(new EarthHauls());

    private ClearTest() {
    }

    public static void main(String[] args) {
        newObject();
        clearedScenes();
        clearedAfterOneCall();
        clearedAfterRefusedCalls();
        clearedWithNoPlan();
        clearedTwiceAndOften();
        objectsStandApart();
        Check.end();
    }

    private static void newObject() {
        for (String line : NEW.split("\n")) {
            String call = line.substring(0, line.indexOf(' '));
            String want = switch (call) {
                case "count", "hauled", "solve", "worth", "excess" -> "0";
                case "balance", "cost", "judge" -> "-1";
                default -> "throws.IndexOutOfBoundsException";
            };
            Check.dueSame("new: " + line, line.substring(line.indexOf(": ") + 2), want);
        }
    }

    private static void clearedScenes() {
        for (Scene before : Scene.values()) {
            for (Scene then : Scene.values()) {
                EarthHauls x = Scene.made(before);
                Look.at(x);
                x.clear();
                Look.dueSame(before + " cleared", Look.at(x), NEW);
                then.build(x);
                Look.dueSame(before + " cleared, then " + then, Look.at(x), Look.at(Scene.made(then)));
            }
        }
    }

    private static void dueAsNew(String when, EarthHauls x) {
        Look.dueSame(when, Look.at(x), NEW);
        EarthHauls fresh = new EarthHauls();
        Scene.complete(x);
        Scene.complete(fresh);
        Look.dueSame(when + ", all stations", Look.at(x), Look.at(fresh));
    }

    private static void dueCleared(String call, java.util.function.Consumer<EarthHauls> deed) {
        EarthHauls x = new EarthHauls();
        for (int i = 0; i < 4; i++) {
            x.station(i == 0 ? 0 : 5, 3, -3, 3, 101);
        }
        deed.accept(x);
        x.clear();
        dueAsNew("clear after " + call, x);
    }

    private static void clearedAfterOneCall() {
        dueCleared("nothing", x -> { });
        dueCleared("station", x -> x.station(100, 100, 100, 100, 5050));
        dueCleared("shrink", x -> x.set(0, 500));
        dueCleared("rate 0", x -> x.set(1, 0));
        dueCleared("rate 100", x -> x.set(1, 100));
        dueCleared("border 0", x -> x.border(0, true));
        dueCleared("border 1", x -> x.border(1, true));
        for (int which = 0; which < 3; which++) {
            int at = which;
            dueCleared("beside " + which, x -> x.beside(at, 2, 100000000, 1000));
        }
        for (int haul = 0; haul < 30; haul++) {
            int source = haul / 5;
            int sink = haul % 5;
            dueCleared("lay " + source + ", " + sink, x -> x.lay(source, sink, 100000000));
        }
        dueCleared("solve", EarthHauls::solve);
        dueCleared("more", x -> x.more(0, true));
    }

    private static void clearedAfterRefusedCalls() {
        dueCleared("a refused station", x -> Check.told(() -> x.station(0, 0, 0, 0, 101)));
        dueCleared("a refused set", x -> Check.told(() -> {
            x.set(0, 499);
            return 0;
        }));
        dueCleared("a refused border", x -> Check.told(() -> {
            x.border(2, true);
            return 0;
        }));
        dueCleared("a refused beside", x -> Check.told(() -> {
            x.beside(0, 3, 1, 1);
            return 0;
        }));
        dueCleared("a refused lay", x -> Check.told(() -> {
            x.lay(0, 0, -1);
            return 0;
        }));
    }

    private static void clearedWithNoPlan() {
        EarthHauls x = new EarthHauls();
        x.station(0, 9, 9, 9, 101);
        x.station(1, 9, 9, 9, 101);
        Check.due("no plan", x.solve(), EarthHauls.NONE);
        x.clear();
        Check.due("the plan of nothing", x.solve(), 0);
        dueAsNew("clear after no plan", x);
    }

    private static void clearedTwiceAndOften() {
        EarthHauls x = Scene.made(Scene.ALL_THERE);
        x.clear();
        x.clear();
        dueAsNew("cleared twice", x);
        EarthHauls often = new EarthHauls();
        for (int i = 0; i < 10; i++) {
            Scene.ALL_THERE_BORDERS_CLOSED.build(often);
            often.clear();
        }
        dueAsNew("cleared often", often);
        EarthHauls fresh = new EarthHauls();
        fresh.clear();
        dueAsNew("a new object cleared", fresh);
    }

    private static void objectsStandApart() {
        EarthHauls one = Scene.made(Scene.ALL_THERE);
        String before = Look.at(one);
        EarthHauls other = Scene.made(Scene.ALL_THERE_BORDERS_CLOSED);
        other.solve();
        Look.dueSame("another object was made", Look.at(one), before);
        other.clear();
        Look.dueSame("another object was cleared", Look.at(one), before);
    }
}
