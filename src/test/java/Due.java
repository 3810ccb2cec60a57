/** What is due of a call, against what came; every test counts with one of these and ends by finish. */
final class Due {
    /** One fault can make thousands of answers wrong; the first ones tell enough. */
    private static final int MOST_TOLD = 40;
    /** Ahead of all that is told of an answer: which test asked. */
    static String where = "";
    private static int passed = 0;
    private static int failed = 0;

    private Due() {
    }

    static void is(String what, long got, long want) {
        same(what, String.valueOf(got), String.valueOf(want));
    }

    static void so(String what, boolean holds) {
        same(what, holds ? "so" : "not so", "so");
    }

    static void same(String what, String got, String want) {
        boolean holds = got.equals(want);
        if (holds) {
            passed++;
        } else {
            failed++;
        }
        if (!holds && failed <= MOST_TOLD) {
            System.out.println(where + what + " answered " + got + ", due is " + want);
        }
    }

    static void finish() {
        System.out.println(passed + " passed, " + failed + " failed");
        if (failed != 0) {
            System.exit(1);
        }
    }
}
