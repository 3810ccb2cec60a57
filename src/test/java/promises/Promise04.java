/** Promise 4: set. */
final class Promise04 {
    private Promise04() {
    }

    @Says("Of a GUEST 0 MEANS, 1 LOST becomes PURPOSES: what it was")
    static void itTellsWhatItWas() {
        InnPurposes x = Inns.withOne(0, 0, 5);
        Due.is("means was", x.set(0, 0, 6), 5);
        Due.is("lost was", x.set(0, 1, 7), 0);
        Due.is("means was", x.set(0, 0, 8), 6);
        Due.is("lost was", x.set(0, 1, 9), 7);
        Due.is("means is", x.of(0, 2), 8);
        Due.is("lost is", x.of(0, 3), 9);
    }

    @Says({"sets of them as bits (0 .. 4095)", "BAD"})
    static void purposesAre0To4095() {
        InnPurposes x = Inns.withOne(0, 0, 1);
        for (int what = 0; what < 2; what++) {
            Due.is("purposes -1", x.set(0, what, -1), -2);
            Due.is("purposes 4096", x.set(0, what, 4096), -2);
            Due.is("the least", x.set(0, what, Integer.MIN_VALUE), -2);
            Due.is("the greatest", x.set(0, what, Integer.MAX_VALUE), -2);
            Due.is("purposes 4095", x.set(0, what, 4095), 1 - what);
            Due.is("purposes 0", x.set(0, what, 0), 4095);
            Due.is("none", x.of(0, 2 + what), 0);
        }
    }

    @Says("NONE: guest, what")
    static void guestAndWhatMustBeThere() {
        InnPurposes x = Inns.withOne(0, 0, 1);
        Due.is("guest -1", x.set(-1, 0, 0), -1);
        Due.is("guest 1", x.set(1, 0, 0), -1);
        Due.is("guest 6", x.set(6, 0, 0), -1);
        Due.is("what -1", x.set(0, -1, 0), -1);
        Due.is("what 2", x.set(0, 2, 0), -1);
        InnPurposes y = Inns.ofSixKinds(0, 0, 3);
        Due.is("guest 5", y.set(5, 0, 0), 3);
        Due.is("guest 6", y.set(6, 0, 0), -1);
    }

    @Says("the first that a call's words name")
    static void noneIsNamedAheadOfBad() {
        InnPurposes x = Inns.withOne(0, 0, 1);
        Due.is("guest and purposes", x.set(1, 0, 4096), -1);
        Due.is("what and purposes", x.set(0, 2, -1), -1);
    }

    @Says("What is answered so changes nothing")
    static void aRefusedSetChangesNothing() {
        Everything.stays("guest 3", -1, x -> x.set(3, 0, 1));
        Everything.stays("what 2", -1, x -> x.set(0, 2, 1));
        Everything.stays("means 4096", -2, x -> x.set(0, 0, 4096));
        Everything.stays("lost -1", -2, x -> x.set(0, 1, -1));
    }
}
