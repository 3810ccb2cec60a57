/** Promise 32: tape. */
final class Promise32 {
    private Promise32() {
    }

    @Says("TAPES 0 .. 5 hold nothing (at first),")
    static void tapesHoldNothingAtFirst() {
        InnPurposes x = new InnPurposes();
        for (int t = 0; t < 6; t++) {
            Due.is("item of " + t, x.item(t, 0, 1), -11);
            Due.is("read of " + t, x.read(t, 0), InnPurposes.NO);
            Due.is("shift of " + t, x.shift(t, 0, t, 0, 0), -11);
        }
    }

    @Says({"or a row of 0 bytes, 1 shorts, 2 ints, 3 longs, 4 booleans (items 0, 1).",
        "A TAPE becomes a row of n (0 .. 60) of a sort, all 0, or holds nothing (sort -1: n does not matter): 1."})
    static void eachTapeMayBeOfEachSort() {
        long[] due = {-1, -1, -1, -1, 1};
        for (int t = 0; t < 6; t++) {
            InnPurposes x = new InnPurposes();
            for (int sort = 0; sort < 5; sort++) {
                Due.is("tape " + t, x.tape(t, sort, 2), 1);
                Due.is("all 0", x.read(t, 1), 0);
                x.item(t, 1, -1);
                Due.is("item of sort " + sort, x.read(t, 1), due[sort]);
            }
        }
    }

    @Says("A TAPE becomes a row of n (0 .. 60) of a sort")
    static void rowsAreOf0To60() {
        InnPurposes x = new InnPurposes();
        Due.is("n 0", x.tape(0, 0, 0), 1);
        Due.is("it has no first item", x.item(0, 0, 1), -13);
        Due.is("n 1", x.tape(0, 0, 1), 1);
        Due.is("it has a first item", x.item(0, 0, 1), 1);
        Due.is("and no second", x.item(0, 1, 1), -13);
        Due.is("n 60", x.tape(0, 0, 60), 1);
        Due.is("it has a 60th item", x.item(0, 59, 1), 1);
        Due.is("and no 61st", x.item(0, 60, 1), -13);
        Due.is("n 61", x.tape(0, 0, 61), -2);
    }

    @Says("of a sort, all 0")
    static void aTapeMadeAnewIsAll0() {
        InnPurposes x = new InnPurposes();
        x.tape(0, 3, 60);
        x.item(0, 0, 7);
        x.item(0, 59, 7);
        x.tape(0, 3, 60);
        Due.is("the first", x.read(0, 0), 0);
        Due.is("the last", x.read(0, 59), 0);
        x.item(0, 59, 7);
        x.tape(0, 3, 1);
        x.tape(0, 3, 60);
        Due.is("the last, behind a shorter row", x.read(0, 59), 0);
        x.item(0, 5, 7);
        x.tape(0, -1, 0);
        x.tape(0, 3, 60);
        Due.is("one, behind nothing", x.read(0, 5), 0);
    }

    @Says("or holds nothing (sort -1: n does not matter): 1")
    static void sortMinus1HoldsNothingByAnyN() {
        int[] any = {0, 60, 61, -1, Integer.MIN_VALUE, Integer.MAX_VALUE};
        for (int n : any) {
            InnPurposes x = new InnPurposes();
            x.tape(5, 0, 3);
            Due.is("n " + n, x.tape(5, -1, n), 1);
            Due.is("nothing is there", x.item(5, 0, 1), -11);
            Due.is("nothing to read", x.read(5, 0), InnPurposes.NO);
        }
    }

    @Says("BAD: sort, n above 60")
    static void sortsAreMinus1To4() {
        InnPurposes x = new InnPurposes();
        Due.is("sort -2", x.tape(0, -2, 1), -2);
        Due.is("sort 5", x.tape(0, 5, 1), -2);
        Due.is("the least", x.tape(0, Integer.MIN_VALUE, 1), -2);
        Due.is("the greatest", x.tape(0, Integer.MAX_VALUE, 1), -2);
        Due.is("sort 4", x.tape(0, 4, 1), 1);
        Due.is("n 61", x.tape(0, 0, 61), -2);
        Due.is("the greatest n", x.tape(0, 0, Integer.MAX_VALUE), -2);
    }

    @Says({"BAD: sort, n above 60; SIZE", "SIZE (-14): a size below 0"})
    static void aSizeBelow0IsSize() {
        InnPurposes x = new InnPurposes();
        for (int sort = 0; sort < 5; sort++) {
            Due.is("n -1", x.tape(0, sort, -1), -14);
            Due.is("the least n", x.tape(0, sort, Integer.MIN_VALUE), -14);
        }
    }

    @Says("NONE: tape")
    static void theTapeMustBeThere() {
        InnPurposes x = new InnPurposes();
        Due.is("tape -1", x.tape(-1, 0, 1), -1);
        Due.is("tape 6", x.tape(6, 0, 1), -1);
        Due.is("tape 6, nothing", x.tape(6, -1, 1), -1);
        Due.is("the least", x.tape(Integer.MIN_VALUE, 0, 1), -1);
        Due.is("the greatest", x.tape(Integer.MAX_VALUE, 0, 1), -1);
        Due.is("tape 5", x.tape(5, 0, 1), 1);
        Due.is("tape 0", x.tape(0, 0, 1), 1);
    }

    @Says("the first that a call's words name")
    static void noneIsNamedAheadOfBadAndBadAheadOfSize() {
        InnPurposes x = new InnPurposes();
        Due.is("tape, sort, size", x.tape(6, 5, -1), -1);
        Due.is("tape, n above 60", x.tape(-1, 0, 61), -1);
        Due.is("tape, size", x.tape(6, 0, -1), -1);
        Due.is("sort, size", x.tape(0, 5, -1), -2);
        Due.is("sort, size", x.tape(0, -2, -1), -2);
    }

    @Says("What is answered so changes nothing")
    static void aRefusedTapeChangesNothing() {
        Everything.stays("tape 6", -1, x -> x.tape(6, 0, 1));
        Everything.stays("sort 5", -2, x -> x.tape(0, 5, 1));
        Everything.stays("sort -2", -2, x -> x.tape(0, -2, 1));
        Everything.stays("n 61", -2, x -> x.tape(0, 0, 61));
        Everything.stays("n -1", -14, x -> x.tape(0, 0, -1));
    }
}
