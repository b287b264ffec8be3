/** Counts answers that are not as due and prints each of them. */
final class Check {
    private static int wrong = 0;

    private Check() {
    }

    interface Call {
        long answer();
    }

    interface Deed {
        void run();
    }

    static void due(String what, long got, long want) {
        if (got != want) {
            wrong++;
            System.out.println(what + " answered " + got + ", due is " + want);
        }
    }

    static void dueThrow(String what, Class<? extends RuntimeException> want, Deed deed) {
        String got = thrownBy(deed);
        if (!got.equals(want.getSimpleName())) {
            wrong++;
            System.out.println(what + " threw " + got + ", due is " + want.getSimpleName());
        }
    }

    static void dueThrowsNothing(String what, Deed deed) {
        String got = thrownBy(deed);
        if (!got.equals("nothing")) {
            wrong++;
            System.out.println(what + " threw " + got + ", due is nothing");
        }
    }

    static void dueSame(String what, String got, String want) {
        if (!got.equals(want)) {
            wrong++;
            System.out.println(what + " answered " + got + ", due is " + want);
        }
    }

    /** The answer as a text, or the name of the exception. */
    static String told(Call call) {
        try {
            return Long.toString(call.answer());
        } catch (RuntimeException e) {
            return "throws." + e.getClass().getSimpleName();
        }
    }

    private static String thrownBy(Deed deed) {
        try {
            deed.run();
            return "nothing";
        } catch (RuntimeException e) {
            return e.getClass().getSimpleName();
        }
    }

    static boolean isWrong() {
        return wrong > 0;
    }

    static void end() {
        System.out.println(wrong == 0 ? "all answers are as due" : wrong + " answers are not as due");
        if (wrong != 0) {
            System.exit(1);
        }
    }
}
