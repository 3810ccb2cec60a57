/** Promise 16: see. */
final class Promise16 {
    private Promise16() {
    }

    private static InnPurposes withFive() {
        InnPurposes x = Inns.withOne(0, 0, 4095);
        for (int i = 0; i < 5; i++) {
            x.see(0, 0, 0, true);
        }
        return x;
    }

    @Says("What is SEEN comes: how many there are")
    static void itTellsHowManyThereAre() {
        InnPurposes x = Inns.ofSixKinds(0, 0, 0);
        for (int i = 1; i <= 5; i++) {
            Due.is("row " + i, x.see(i, i, i, i % 2 == 0), i);
            Due.is("there are", x.count(2), i);
        }
    }

    @Says({"SEEN told by hand: a GUEST, NIGHTS n (0 .. 12) from now, a PURPOSE, that it MEANS it then, or not", "BAD: n"})
    static void nightsAre0To12() {
        InnPurposes x = Inns.withOne(0, 0, 0);
        Due.is("n -1", x.see(0, -1, 0, true), -2);
        Due.is("n 13", x.see(0, 13, 0, true), -2);
        Due.is("the least", x.see(0, Integer.MIN_VALUE, 0, true), -2);
        Due.is("the greatest", x.see(0, Integer.MAX_VALUE, 0, true), -2);
        Due.is("n 0", x.see(0, 0, 0, true), 1);
        Due.is("n 12", x.see(0, 12, 0, true), 2);
    }

    @Says({"(5 rows at most).", "FULL: 5"})
    static void theFifthRowComesAndTheSixthDoesNot() {
        InnPurposes x = withFive();
        Due.is("there are", x.count(2), 5);
        Due.is("a sixth", x.see(0, 0, 0, true), -4);
        Due.is("there are", x.count(2), 5);
        Due.is("none", x.see(-1, 0, 0, true), 0);
        Due.is("the first again", x.see(0, 0, 0, true), 1);
    }

    @Says("(guest -1: none then, 0, whatever the others are)")
    static void guestMinus1EmptiesIt() {
        InnPurposes x = new InnPurposes();
        Due.is("nobody is there", x.see(-1, 0, 0, true), 0);
        x = withFive();
        Due.is("whatever the others are", x.see(-1, 13, 12, false), 0);
        Due.is("there are none", x.count(2), 0);
        Due.is("all sets are so", x.meant(0, 0), 4096);
        Due.is("far off, too", x.see(-1, Integer.MIN_VALUE, Integer.MAX_VALUE, true), 0);
    }

    @Says("NONE: guest, purpose")
    static void guestAndPurposeMustBeThere() {
        InnPurposes x = Inns.withOne(0, 0, 0);
        Due.is("guest -2", x.see(-2, 0, 0, true), -1);
        Due.is("guest 1", x.see(1, 0, 0, true), -1);
        Due.is("guest 6", x.see(6, 0, 0, true), -1);
        Due.is("the least", x.see(Integer.MIN_VALUE, 0, 0, true), -1);
        Due.is("purpose -1", x.see(0, 0, -1, true), -1);
        Due.is("purpose 12", x.see(0, 0, 12, true), -1);
        Due.is("purpose 0", x.see(0, 0, 0, true), 1);
        Due.is("purpose 11", x.see(0, 0, 11, true), 2);
    }

    @Says("the first that a call's words name")
    static void noneIsNamedAheadOfBadAndBadAheadOfFull() {
        InnPurposes x = withFive();
        Due.is("guest, n, full", x.see(1, 13, 0, true), -1);
        Due.is("purpose, n, full", x.see(0, 13, 12, true), -1);
        Due.is("purpose, full", x.see(0, 0, 12, true), -1);
        Due.is("n, full", x.see(0, 13, 0, true), -2);
    }

    @Says("What is answered so changes nothing")
    static void aRefusedRowChangesNothing() {
        Everything.stays("guest 3", -1, x -> x.see(3, 0, 0, true));
        Everything.stays("guest -2", -1, x -> x.see(-2, 0, 0, true));
        Everything.stays("purpose 12", -1, x -> x.see(0, 0, 12, true));
        Everything.stays("n 13", -2, x -> x.see(0, 13, 0, true));
        Everything.stays("a sixth", -4, x -> x.see(0, 0, 7, true) + x.see(0, 0, 6, true), x -> x.see(0, 0, 5, true));
    }
}
