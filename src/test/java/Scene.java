/** States to begin from, from a new object to a road with all that there can be. */
enum Scene {
    NEW {
        @Override
        void build(EarthHauls x) {
        }
    },
    ONE_STATION {
        @Override
        void build(EarthHauls x) {
            x.station(0, 30, -20, 10, 520);
        }
    },
    ONE_SPAN {
        @Override
        void build(EarthHauls x) {
            x.station(0, 7, 7, 7, 101);
            x.station(9, 7, -7, 7, 305);
            x.beside(2, 0, 1000, 3);
            x.lay(0, 4, 12);
        }
    },
    TWO_SPANS_BORDER_CLOSED {
        @Override
        void build(EarthHauls x) {
            x.station(0, 20, 20, 20, 1010);
            x.station(10, 0, 0, 0, 1010);
            x.station(20, -20, -20, -20, 1010);
            x.border(0, true);
            x.set(0, 700);
            x.beside(0, 1, 5, 6);
        }
    },
    THREE_SPANS_AT_RATE_0 {
        @Override
        void build(EarthHauls x) {
            x.station(0, 40, 40, 40, 1010);
            x.station(10, 0, 0, 0, 1010);
            x.station(20, 0, 0, 0, 1010);
            x.station(10, -40, -40, -40, 1010);
            x.set(1, 0);
            layThePlan(x);
        }
    },
    ALL_THERE {
        @Override
        void build(EarthHauls x) {
            fiveStations(x);
            x.set(0, 900);
            x.set(1, 3);
            x.beside(0, 1, 100000, 20);
            x.beside(1, 2, 200000, 21);
            x.beside(2, 3, 300000, 5);
            layThePlan(x);
        }
    },
    ALL_THERE_BORDERS_CLOSED {
        @Override
        void build(EarthHauls x) {
            fiveStations(x);
            x.border(0, true);
            x.border(2, true);
            x.set(0, 500);
            x.set(1, 100);
            x.beside(0, 0, 100000000, 1000);
            x.beside(1, 3, 0, 0);
            x.beside(2, 1, 7, 7);
            x.lay(0, 0, 100000000);
            x.lay(5, 4, 3);
            x.lay(3, 1, 8);
        }
    };

    abstract void build(EarthHauls x);

    static EarthHauls made(Scene scene) {
        EarthHauls x = new EarthHauls();
        scene.build(x);
        return x;
    }

    /** Stations until there are 5: shows what lies ready for spans and borders that are not yet there. */
    static void complete(EarthHauls x) {
        for (int n = x.count(0); n < 5; n++) {
            x.station(n == 0 ? 0 : 11 * n, 10 * n, 5 - n, -9 * n, 203);
        }
    }

    static void layThePlan(EarthHauls x) {
        for (int source = 0; source < 6; source++) {
            for (int sink = 0; sink < 5; sink++) {
                x.lay(source, sink, x.hauled(source, sink));
            }
        }
    }

    private static void fiveStations(EarthHauls x) {
        x.station(0, 60, 60, 60, 1010);
        x.station(10, 30, -20, 10, 520);
        x.station(20, -30, -30, -30, 1010);
        x.station(30, 40, -41, 42, 1525);
        x.station(40, 0, 5, 25, 701);
    }
}
