/** Promise 21: plan. */
final class Promise21 {
    private Promise21() {
    }

    private static InnPurposes withTen() {
        InnPurposes x = Inns.withOne(0, 0, 4095);
        for (int i = 0; i < 10; i++) {
            x.plan(0, 0);
        }
        return x;
    }

    @Says("A row comes to the PLAN: how many there are")
    static void itTellsHowManyThereAre() {
        InnPurposes x = Inns.ofSixKinds(0, 0, 0);
        for (int i = 1; i <= 10; i++) {
            Due.is("row " + i, x.plan(i % 4, i % 6), i);
            Due.is("there are", x.count(3), i);
        }
    }

    @Says({"10 rows at most)", "FULL: 10"})
    static void theTenthRowComesAndTheEleventhDoesNot() {
        InnPurposes x = withTen();
        Due.is("there are", x.count(3), 10);
        Due.is("ten nights", x.ends(0), 2);
        Due.is("an eleventh", x.plan(0, 0), -4);
        Due.is("an eleventh of another sort", x.plan(3, 0), -4);
        Due.is("there are", x.count(3), 10);
        Due.is("ten nights", x.ends(0), 2);
    }

    @Says("(what -1: it is empty then, 0, whatever the other is)")
    static void whatMinus1EmptiesIt() {
        Due.is("nobody is there", new InnPurposes().plan(-1, 0), 0);
        InnPurposes x = withTen();
        Due.is("whatever the other is", x.plan(-1, 6), 0);
        Due.is("there are none", x.count(3), 0);
        Due.is("nothing goes", x.ends(0), 12);
        Due.is("the first again", x.plan(0, 0), 1);
        Due.is("far off, too", x.plan(-1, Integer.MIN_VALUE), 0);
    }

    @Says("NONE: what (0 .. 3)")
    static void whatIs0To3() {
        InnPurposes x = Inns.withOne(0, 0, 0);
        Due.is("what -2", x.plan(-2, 0), -1);
        Due.is("what 4", x.plan(4, 0), -1);
        Due.is("the least", x.plan(Integer.MIN_VALUE, 0), -1);
        Due.is("the greatest", x.plan(Integer.MAX_VALUE, 0), -1);
        Due.is("what 0", x.plan(0, 0), 1);
        Due.is("what 3", x.plan(3, 0), 2);
    }

    @Says("guest (but by 0)")
    static void theGuestMustBeThereButByANight() {
        InnPurposes x = Inns.withOne(0, 0, 0);
        for (int what = 1; what < 4; what++) {
            Due.is("guest -1 by " + what, x.plan(what, -1), -1);
            Due.is("guest 1 by " + what, x.plan(what, 1), -1);
        }
        Due.is("a night, guest 1", x.plan(0, 1), 1);
        Due.is("a night, guest -1", x.plan(0, -1), 2);
        Due.is("a night, guest 6", x.plan(0, 6), 3);
        Due.is("a night, the least", x.plan(0, Integer.MIN_VALUE), 4);
        Due.is("nobody is there", new InnPurposes().plan(0, 0), 1);
    }

    @Says("the first that a call's words name")
    static void noneIsNamedAheadOfFull() {
        InnPurposes x = withTen();
        Due.is("what and full", x.plan(4, 0), -1);
        Due.is("guest and full", x.plan(1, 1), -1);
    }

    @Says("What is answered so changes nothing")
    static void aRefusedRowChangesNothing() {
        Everything.stays("what 4", -1, x -> x.plan(4, 0));
        Everything.stays("what -2", -1, x -> x.plan(-2, 0));
        Everything.stays("guest 3", -1, x -> x.plan(3, 3));
        Everything.stays("an eleventh", -4, x -> {
            for (int i = 0; i < 10; i++) {
                x.plan(0, 0);
            }
            return 0;
        }, x -> x.plan(3, 0));
    }
}
