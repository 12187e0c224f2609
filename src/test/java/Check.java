/** What all tests of the project share: calls are compared with what is due, and counted. */
final class Check {
    private static int wrong = 0;
    private static int right = 0;

    private Check() {
    }

    /** A call that may throw. */
    interface Call {
        long make();
    }

    static void due(String what, long got, long want) {
        if (got == want) {
            right++;
        } else {
            wrong++;
            System.out.println(what + " answered " + got + ", due is " + want);
        }
    }

    static void due(String what, String got, String want) {
        if (got.equals(want)) {
            right++;
        } else {
            wrong++;
            System.out.println(what + " answered " + got + ", due is " + want);
        }
    }

    /** What a call answers, or the short name of what it throws. */
    static String answer(Call call) {
        try {
            return Long.toString(call.make());
        } catch (RuntimeException e) {
            return e.getClass().getSimpleName();
        }
    }

    static void refuses(String what, Class<? extends RuntimeException> kind, Call call) {
        due(what, answer(call), kind.getSimpleName());
    }

    /** Ends the test: exit code 1 if any answer was wrong. */
    static void finish(String name) {
        System.out.println(name + ": " + right + " answers as due, " + wrong + " not");
        if (wrong != 0 || right == 0) {
            System.exit(1);
        }
    }
}
