/** Promise 23: book. */
final class Promise23 {
    private Promise23() {
    }

    private static InnPurposes withEight() {
        InnPurposes x = new InnPurposes();
        for (int i = 0; i < 8; i++) {
            x.book(i, 0);
        }
        return x;
    }

    @Says("A row comes to the BOOK: how many there are")
    static void itTellsHowManyThereAre() {
        InnPurposes x = new InnPurposes();
        for (int i = 1; i <= 8; i++) {
            Due.is("row " + i, x.book(0, 0), i);
            Due.is("there are", x.count(4), i);
        }
    }

    @Says({"A BOOK told by hand: PURPOSES, how often (0 .. 99; 8 at most):", "BAD: often"})
    static void oftenIs0To99() {
        InnPurposes x = new InnPurposes();
        Due.is("often -1", x.book(0, -1), -2);
        Due.is("often 100", x.book(0, 100), -2);
        Due.is("the least", x.book(0, Integer.MIN_VALUE), -2);
        Due.is("the greatest", x.book(0, Integer.MAX_VALUE), -2);
        Due.is("often 0", x.book(0, 0), 1);
        Due.is("often 99", x.book(0, 99), 2);
    }

    @Says({"(0 .. 99; 8 at most)", "FULL: 8"})
    static void theEighthRowComesAndTheNinthDoesNot() {
        InnPurposes x = withEight();
        Due.is("there are", x.count(4), 8);
        Due.is("a ninth", x.book(11, 9), -4);
        Due.is("there are", x.count(4), 8);
        Due.is("all is so", x.looked(), -5);
    }

    @Says("(purpose -1: it is empty then, 0, whatever the other is)")
    static void purposeMinus1EmptiesIt() {
        Due.is("it was empty", new InnPurposes().book(-1, 0), 0);
        InnPurposes x = withEight();
        Due.is("whatever the other is", x.book(-1, 100), 0);
        Due.is("there are none", x.count(4), 0);
        Due.is("the first again", x.book(0, 1), 1);
        Due.is("it is otherwise", x.looked(), 0);
        Due.is("far off, too", x.book(-1, Integer.MIN_VALUE), 0);
        Due.is("all is so", x.looked(), -5);
    }

    @Says({"whatever the other is). NONE;", "PURPOSES 0 .. 11"})
    static void thePurposeMustBeThere() {
        InnPurposes x = new InnPurposes();
        Due.is("purpose -2", x.book(-2, 0), -1);
        Due.is("purpose 12", x.book(12, 0), -1);
        Due.is("the least", x.book(Integer.MIN_VALUE, 0), -1);
        Due.is("the greatest", x.book(Integer.MAX_VALUE, 0), -1);
        Due.is("purpose 0", x.book(0, 0), 1);
        Due.is("purpose 11", x.book(11, 0), 2);
    }

    @Says("the first that a call's words name")
    static void noneIsNamedAheadOfBadAndBadAheadOfFull() {
        InnPurposes x = withEight();
        Due.is("purpose, often, full", x.book(12, 100), -1);
        Due.is("purpose, full", x.book(-2, 0), -1);
        Due.is("often, full", x.book(0, 100), -2);
    }

    @Says("What is answered so changes nothing")
    static void aRefusedRowChangesNothing() {
        Everything.stays("purpose 12", -1, x -> x.book(12, 0));
        Everything.stays("purpose -2", -1, x -> x.book(-2, 0));
        Everything.stays("often 100", -2, x -> x.book(1, 100));
        Everything.stays("a ninth", -4, x -> {
            x.book(-1, 0);
            for (int i = 0; i < 8; i++) {
                x.book(1, x.told(11));
            }
            return 0;
        }, x -> x.book(0, 99));
    }
}
