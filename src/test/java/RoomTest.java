import java.lang.management.ManagementFactory;

/** All calls of a run live in one room: a new object is small, and its calls make next to nothing. */
final class RoomTest {
    private static final int OBJECTS = 1000;
    private static final int CALLS = 512;

    private RoomTest() {
    }

    public static void main(String[] args) {
        long before = bytes();
        EarthHauls[] all = new EarthHauls[OBJECTS];
        for (int i = 0; i < OBJECTS; i++) {
            all[i] = new EarthHauls();
        }
        long each = (bytes() - before) / OBJECTS;
        Check.due("a new object takes at most 6000 bytes, not " + each, each <= 6000 ? 1 : 0, 1);
        EarthHauls x = all[0];
        prepare(x);
        calls(x, 2);
        before = bytes();
        calls(x, CALLS);
        long made = bytes() - before;
        Check.due("512 calls make at most 50000 bytes, not " + made, made <= 50000 ? 1 : 0, 1);
        Check.end();
    }

    private static void prepare(EarthHauls x) {
        x.station(0, 30, -20, 10, 520);
        x.station(50, -40, 25, -5, 1530);
        x.station(40, -60, -70, -80, 2020);
        x.station(30, 90, 100, 80, 1010);
        x.station(99, -1, 0, 1, 5050);
        x.beside(0, 1, 1000000, 20);
        x.beside(1, 2, 1000000, 21);
        x.beside(2, 3, 1000000, 5);
    }

    private static void calls(EarthHauls x, int calls) {
        for (int i = 0; i < calls; i += 4) {
            x.set(1, i % 100);
            x.excess();
            x.more(i % 4, i % 8 < 4);
            x.balance(i % 5);
        }
    }

    private static long bytes() {
        com.sun.management.ThreadMXBean bean = (com.sun.management.ThreadMXBean) ManagementFactory.getThreadMXBean();
        return bean.getThreadAllocatedBytes(Thread.currentThread().getId());
    }
}
