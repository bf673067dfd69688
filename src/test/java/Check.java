/** Counts what is not as due; a test's main method ends with finish(). */
final class Check {
    interface Call {
        void make();
    }

    static final String STATE = "IllegalStateException";
    static final String INDEX = "IndexOutOfBoundsException";
    static final String ARGUMENT = "IllegalArgumentException";
    static final String UNSUPPORTED = "UnsupportedOperationException";
    static final String NOTHING = "nothing";

    private static int made = 0;
    private static int wrong = 0;
    private static String within = "";

    private Check() {
    }

    static void due(String what, long got, long want) {
        made++;
        if (got != want) {
            tell(what + ": got " + got + ", due is " + want);
        }
    }

    static void dueText(String what, String got, String want) {
        made++;
        if (!got.equals(want)) {
            tell(what + ": got " + got + ", due is " + want);
        }
    }

    static void dueThrow(String what, String want, Call call) {
        dueText(what + " throws", thrownBy(call), want);
    }

    static String thrownBy(Call call) {
        try {
            call.make();
        } catch (RuntimeException e) {
            return e.getClass().getSimpleName();
        }
        return NOTHING;
    }

    /** What is wrong within a test is told with the test's name; one that checks nothing is wrong. */
    static void test(String name, Runnable body) {
        int before = made;
        within = name + ": ";
        try {
            body.run();
        } catch (RuntimeException e) {
            tell("throws " + e + " at " + e.getStackTrace()[0]);
        }
        if (made == before) {
            tell("checks nothing");
        }
        within = "";
    }

    private static void tell(String text) {
        wrong++;
        System.out.println(within + text + place());
    }

    /** The line of the sentence's test from which this is told. */
    private static String place() {
        return StackWalker.getInstance().walk(frames -> frames
                .filter(frame -> frame.getClassName().endsWith("Sentences"))
                .findFirst()
                .map(frame -> " (" + frame.getFileName() + ":" + frame.getLineNumber() + ")")
                .orElse(""));
    }

    static int wrongSoFar() {
        return wrong;
    }

    static void finish(String test) {
        System.out.println(test + ": " + made + " answers, " + wrong + " not as due");
        if (wrong != 0) {
            System.exit(1);
        }
    }
}
