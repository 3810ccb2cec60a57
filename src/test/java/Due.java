/** What is due of a call, against what came; every test counts with one of these and ends by finish. */
final class Due {
    /** One fault can make thousands of answers wrong; the first ones tell enough. */
    private static final int MOST_TOLD = 40;
    private static int passed = 0;
    private static int failed = 0;

    private Due() {
    }

    static void is(String what, long got, long want) {
        if (got == want) {
            passed++;
        } else {
            failed++;
        }
        if (got != want && failed <= MOST_TOLD) {
            System.out.println(what + " answered " + got + ", due is " + want);
        }
    }

    static void so(String what, boolean holds) {
        is(what, holds ? 1 : 0, 1);
    }

    static void finish() {
        System.out.println(passed + " passed, " + failed + " failed");
        if (failed != 0) {
            System.exit(1);
        }
    }
}
