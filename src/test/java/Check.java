/** Counts what is not as due; a test's main method ends with finish(). */
final class Check {
    interface Call {
        void make();
    }

    static final String STATE = "IllegalStateException";
    static final String INDEX = "IndexOutOfBoundsException";
    static final String ARGUMENT = "IllegalArgumentException";
    static final String UNSUPPORTED = "UnsupportedOperationException";
    static final String NOTHING = "nothing";

    private static int made = 0;
    private static int wrong = 0;

    private Check() {
    }

    static void due(String what, long got, long want) {
        made++;
        if (got != want) {
            wrong++;
            System.out.println(what + ": got " + got + ", due is " + want);
        }
    }

    static void dueText(String what, String got, String want) {
        made++;
        if (!got.equals(want)) {
            wrong++;
            System.out.println(what + ": got " + got + ", due is " + want);
        }
    }

    static void dueThrow(String what, String want, Call call) {
        dueText(what + " throws", thrownBy(call), want);
    }

    static String thrownBy(Call call) {
        try {
            call.make();
        } catch (RuntimeException e) {
            return e.getClass().getSimpleName();
        }
        return NOTHING;
    }

    static int wrongSoFar() {
        return wrong;
    }

    static void finish(String test) {
        System.out.println(test + ": " + made + " answers, " + wrong + " not as due");
        if (wrong != 0) {
            System.exit(1);
        }
    }
}
