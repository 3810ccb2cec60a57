/** Promise 35: shift. */
final class Promise35 {
    private static final int MIN = Integer.MIN_VALUE;
    private static final int MAX = Integer.MAX_VALUE;

    private Promise35() {
    }

    /** Tape 0 holds the ints 1 to 5, tape 1 three ints, tape 2 five longs, the others nothing. */
    private static InnPurposes withRows() {
        InnPurposes x = new InnPurposes();
        x.tape(0, 2, 5);
        for (int i = 0; i < 5; i++) {
            x.item(0, i, i + 1);
        }
        x.tape(1, 2, 3);
        x.tape(2, 3, 5);
        return x;
    }

    private static void holds(InnPurposes x, int tape, int... due) {
        for (int i = 0; i < due.length; i++) {
            Due.is("item " + i + " of tape " + tape, x.read(tape, i), due[i]);
        }
    }

    @Says("n items of a TAPE from i on come to another one")
    static void itemsComeToAnotherTape() {
        InnPurposes x = withRows();
        Due.is("two", x.shift(0, 3, 1, 1, 2), 2);
        holds(x, 1, 0, 4, 5);
        holds(x, 0, 1, 2, 3, 4, 5);
        Due.is("three, which is all", x.shift(0, 0, 1, 0, 3), 3);
        holds(x, 1, 1, 2, 3);
        Due.is("back", x.shift(1, 0, 0, 2, 3), 3);
        holds(x, 0, 1, 2, 1, 2, 3);
    }

    @Says("(or the same) from j on, as they all were before: n.")
    static void itemsComeToTheSameTapeAsTheyWereBefore() {
        InnPurposes x = withRows();
        Due.is("onward by one", x.shift(0, 0, 0, 1, 4), 4);
        holds(x, 0, 1, 1, 2, 3, 4);
        x = withRows();
        Due.is("back by one", x.shift(0, 1, 0, 0, 4), 4);
        holds(x, 0, 2, 3, 4, 5, 5);
        x = withRows();
        Due.is("onto themselves", x.shift(0, 0, 0, 0, 5), 5);
        holds(x, 0, 1, 2, 3, 4, 5);
    }

    @Says("n items of a TAPE")
    static void eachSortIsShiftedAsItIs() {
        long[] most = {127, 32767, MAX, Long.MAX_VALUE, 1};
        for (int sort = 0; sort < 5; sort++) {
            InnPurposes x = new InnPurposes();
            x.tape(0, sort, 60);
            x.tape(5, sort, 60);
            x.item(0, 59, most[sort]);
            Due.is("a whole row of sort " + sort, x.shift(0, 0, 5, 0, 60), 60);
            Due.is("its last", x.read(5, 59), most[sort]);
            Due.is("61", x.shift(0, 0, 5, 0, 61), -13);
        }
    }

    @Says("PLACE: n, i or j is below 0")
    static void nothingMayBeBelow0() {
        InnPurposes x = withRows();
        Due.is("n -1", x.shift(0, 1, 1, 1, -1), -13);
        Due.is("i -1", x.shift(0, -1, 1, 0, 1), -13);
        Due.is("j -1", x.shift(0, 0, 1, -1, 1), -13);
        Due.is("i -1, none", x.shift(0, -1, 1, 0, 0), -13);
        Due.is("j -1, none", x.shift(0, 0, 1, -1, 0), -13);
        Due.is("the least n", x.shift(0, 1, 1, 1, MIN), -13);
        Due.is("the least i", x.shift(0, MIN, 1, 0, 1), -13);
        Due.is("the least j", x.shift(0, 0, 1, MIN, 1), -13);
        Due.is("none from 0 to 0", x.shift(0, 0, 1, 0, 0), 0);
    }

    @Says("or beyond either's end")
    static void nothingMayBeBeyondAnEnd() {
        InnPurposes x = withRows();
        Due.is("up to its own end", x.shift(0, 3, 1, 0, 2), 2);
        Due.is("beyond its own end", x.shift(0, 4, 1, 0, 2), -13);
        Due.is("up to the other's end", x.shift(0, 0, 1, 1, 2), 2);
        Due.is("beyond the other's end", x.shift(0, 0, 1, 2, 2), -13);
        Due.is("none at both ends", x.shift(0, 5, 1, 3, 0), 0);
        Due.is("none beyond its own end", x.shift(0, 6, 1, 0, 0), -13);
        Due.is("none beyond the other's end", x.shift(0, 0, 1, 4, 0), -13);
        Due.is("the greatest n", x.shift(0, 1, 1, 1, MAX), -13);
        Due.is("the greatest i", x.shift(0, MAX, 1, 0, 1), -13);
        Due.is("the greatest j", x.shift(0, 0, 1, MAX, 1), -13);
        Due.is("the greatest i and n", x.shift(0, MAX, 1, 0, MAX), -13);
    }

    @Says("CAST: of unlike sorts")
    static void sortsMustBeAlike() {
        for (int sort = 0; sort < 5; sort++) {
            for (int other = 0; other < 5; other++) {
                InnPurposes x = new InnPurposes();
                x.tape(3, sort, 2);
                x.tape(4, other, 2);
                Due.is("sorts " + sort + " and " + other, x.shift(3, 0, 4, 0, 2), sort == other ? 2 : -12);
            }
        }
    }

    @Says("NOTHING; CAST")
    static void bothTapesMustHoldSomething() {
        InnPurposes x = withRows();
        Due.is("from nothing", x.shift(3, 0, 0, 0, 0), -11);
        Due.is("to nothing", x.shift(0, 0, 3, 0, 0), -11);
        Due.is("nothing to itself", x.shift(3, 0, 3, 0, 0), -11);
        x.tape(3, 2, 0);
        Due.is("an empty row is something", x.shift(3, 0, 0, 0, 0), 0);
    }

    @Says("NONE: tapes")
    static void bothTapesMustBeThere() {
        InnPurposes x = withRows();
        x.tape(5, 2, 1);
        Due.is("tape -1", x.shift(-1, 0, 0, 0, 1), -1);
        Due.is("tape 6", x.shift(6, 0, 0, 0, 1), -1);
        Due.is("other -1", x.shift(0, 0, -1, 0, 1), -1);
        Due.is("other 6", x.shift(0, 0, 6, 0, 1), -1);
        Due.is("the least", x.shift(MIN, 0, MIN, 0, 1), -1);
        Due.is("the greatest", x.shift(MAX, 0, MAX, 0, 1), -1);
        Due.is("tape 5", x.shift(5, 0, 0, 0, 1), 1);
        Due.is("other 5", x.shift(0, 1, 5, 0, 1), 1);
    }

    @Says("the first that a call's words name")
    static void noneThenNothingThenCastThenPlaceAreNamed() {
        InnPurposes x = withRows();
        Due.is("none, nothing, place", x.shift(6, -1, 3, -1, -1), -1);
        Due.is("nothing, none", x.shift(3, 0, 6, 0, 1), -1);
        Due.is("nothing, place", x.shift(3, -1, 0, 0, 1), -11);
        Due.is("to nothing, place", x.shift(0, 0, 3, 9, 9), -11);
        Due.is("cast, place", x.shift(0, -1, 2, 0, 1), -12);
        Due.is("cast, beyond", x.shift(2, 0, 0, 0, 6), -12);
    }

    @Says("What is answered so changes nothing")
    static void aRefusedShiftChangesNothing() {
        Everything.stays("tape 6", -1, x -> x.shift(6, 0, 0, 0, 1));
        Everything.stays("nothing", -11, x -> x.shift(0, 0, 5, 0, 1));
        Everything.stays("unlike sorts", -12, x -> x.shift(0, 0, 2, 0, 1));
        Everything.stays("beyond the end", -13, x -> x.shift(0, 0, 0, 1, 3));
        Everything.stays("below 0", -13, x -> x.shift(0, -1, 0, 0, 2));
        Everything.stays("to a shorter row", -13, x -> x.tape(1, 0, 2), x -> x.shift(0, 0, 1, 0, 3));
    }
}
