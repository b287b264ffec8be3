/** An object is used for 512 calls: the last ones are answered as the first ones were. */
final class LastCallTest {
    private static final int CALLS = 512;

    private LastCallTest() {
    }

    public static void main(String[] args) {
        sameAnswerToTheLast();
        aNewPlanEachTime();
        aLateRoad();
        refusedToTheLast();
        Check.end();
    }

    private static void sameAnswerToTheLast() {
        EarthHauls x = new EarthHauls();
        x.station(0, 40, 40, 40, 1010);
        x.station(10, 0, 0, 0, 1010);
        x.station(10, -40, -40, -40, 1010);
        for (int call = 4; call <= CALLS; call++) {
            Check.due("solve() as call " + call, x.solve(), 800000);
        }
    }

    private static void aNewPlanEachTime() {
        EarthHauls x = new EarthHauls();
        x.station(0, 40, 40, 40, 1010);
        x.station(10, 0, 0, 0, 1010);
        x.station(10, -40, -40, -40, 1010);
        for (int call = 4; call < CALLS; call += 2) {
            int rate = call % 101;
            x.set(1, rate);
            Check.due("solve() as call " + (call + 1), x.solve(), 800000L * rate);
        }
    }

    private static void aLateRoad() {
        EarthHauls x = new EarthHauls();
        for (int call = 1; call <= CALLS - 4; call++) {
            x.clear();
        }
        Check.due("a late first station", x.station(0, 40, 40, 40, 1010), 0);
        Check.due("a late second station", x.station(10, 0, 0, 0, 1010), 1);
        Check.due("a late third station", x.station(10, -40, -40, -40, 1010), 2);
        Check.due("the last call", x.hauled(0, 1), 40000);
    }

    private static void refusedToTheLast() {
        EarthHauls x = new EarthHauls();
        for (int call = 1; call < CALLS; call++) {
            Check.dueThrow("litres as call " + call, IndexOutOfBoundsException.class, () -> x.litres(0, 0));
        }
        Check.due("the last call after refused ones", x.station(0, 1, 2, 3, 101), 0);
    }
}
