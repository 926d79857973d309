/** Counts and prints the answers that are not the due ones. */
final class Checks {
    /** A call that may throw. */
    interface Call {
        void run();
    }

    private static int wrong = 0;

    private Checks() {
    }

    static void due(String what, long got, long want) {
        if (got != want) {
            wrong++;
            System.out.println(what + " answered " + got + ", due is " + want);
        }
    }

    static void due(String what, boolean got, boolean want) {
        due(what, got ? 1 : 0, want ? 1 : 0);
    }

    static void due(String what, String got, String want) {
        if (!got.equals(want)) {
            wrong++;
            System.out.println(what + " answered " + got + ", due is " + want);
        }
    }

    static void noSuch(String what, Call call) {
        due(what, thrownBy(call), "IndexOutOfBoundsException");
    }

    static void noArgument(String what, Call call) {
        due(what, thrownBy(call), "IllegalArgumentException");
    }

    static void noState(String what, Call call) {
        due(what, thrownBy(call), "IllegalStateException");
    }

    /** The very class counts: none that extends it. */
    static String thrownBy(Call call) {
        try {
            call.run();
        } catch (RuntimeException e) {
            return e.getClass().getSimpleName();
        }
        return "nothing";
    }

    static void end() {
        System.out.println(wrong == 0 ? "all answers are as due" : wrong + " answers are not as due");
        if (wrong != 0) {
            System.exit(1);
        }
    }
}
