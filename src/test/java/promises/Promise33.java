/** Promise 33: item. */
final class Promise33 {
    private Promise33() {
    }

    private static void keeps(int sort, long v, long due) {
        InnPurposes x = new InnPurposes();
        x.tape(0, sort, 3);
        Due.is("item of sort " + sort, x.item(0, 1, v), 1);
        Due.is(v + " in sort " + sort, x.read(0, 1), due);
        Due.is("the item ahead", x.read(0, 0), 0);
        Due.is("the item behind", x.read(0, 2), 0);
    }

    @Says("Item i of a TAPE becomes v (its lowest bits, as many as an item has;")
    static void bytesHave8Bits() {
        keeps(0, 127, 127);
        keeps(0, 128, -128);
        keeps(0, -128, -128);
        keeps(0, -129, 127);
        keeps(0, 255, -1);
        keeps(0, 256, 0);
        keeps(0, Long.MAX_VALUE, -1);
        keeps(0, Long.MIN_VALUE, 0);
    }

    @Says("its lowest bits, as many as an item has")
    static void shortsHave16Bits() {
        keeps(1, 32767, 32767);
        keeps(1, 32768, -32768);
        keeps(1, -32769, 32767);
        keeps(1, 65535, -1);
        keeps(1, 65536, 0);
        keeps(1, Long.MAX_VALUE, -1);
    }

    @Says("its lowest bits, as many as an item has")
    static void intsHave32Bits() {
        keeps(2, Integer.MAX_VALUE, Integer.MAX_VALUE);
        keeps(2, Integer.MAX_VALUE + 1L, Integer.MIN_VALUE);
        keeps(2, Integer.MIN_VALUE - 1L, Integer.MAX_VALUE);
        keeps(2, (1L << 32) - 1, -1);
        keeps(2, 1L << 32, 0);
        keeps(2, Long.MIN_VALUE, 0);
    }

    @Says("its lowest bits, as many as an item has")
    static void longsHaveAll64Bits() {
        keeps(3, Long.MAX_VALUE, Long.MAX_VALUE);
        keeps(3, Long.MIN_VALUE, Long.MIN_VALUE);
        keeps(3, -1, -1);
        keeps(3, 1L << 32, 1L << 32);
    }

    @Says({"booleans: whether v is not 0): 1.", "4 booleans (items 0, 1)"})
    static void booleansAreWhetherVIsNot0() {
        keeps(4, 0, 0);
        keeps(4, 1, 1);
        keeps(4, -1, 1);
        keeps(4, 2, 1);
        keeps(4, 256, 1);
        keeps(4, 1L << 32, 1);
        keeps(4, Long.MIN_VALUE, 1);
        InnPurposes x = new InnPurposes();
        x.tape(0, 4, 1);
        x.item(0, 0, 8);
        x.item(0, 0, 0);
        Due.is("0 again", x.read(0, 0), 0);
    }

    @Says("is not 0): 1. NONE;")
    static void theTapeMustBeThere() {
        InnPurposes x = new InnPurposes();
        for (int t = 0; t < 6; t++) {
            x.tape(t, 0, 1);
        }
        Due.is("tape -1", x.item(-1, 0, 1), -1);
        Due.is("tape 6", x.item(6, 0, 1), -1);
        Due.is("the least", x.item(Integer.MIN_VALUE, 0, 1), -1);
        Due.is("the greatest", x.item(Integer.MAX_VALUE, 0, 1), -1);
        Due.is("tape 0", x.item(0, 0, 1), 1);
        Due.is("tape 5", x.item(5, 0, 1), 1);
    }

    @Says({"NOTHING; PLACE", "The host's refusals: NOTHING (-11): nothing is there;"})
    static void somethingMustBeThere() {
        InnPurposes x = new InnPurposes();
        Due.is("nothing at first", x.item(0, 0, 1), -11);
        x.tape(0, 0, 0);
        Due.is("an empty row is something", x.item(0, 0, 1), -13);
        x.tape(0, -1, 0);
        Due.is("nothing again", x.item(0, 0, 1), -11);
    }

    @Says({"NOTHING; PLACE", "PLACE (-13): no such place"})
    static void thePlaceMustBeThere() {
        InnPurposes x = new InnPurposes();
        x.tape(0, 2, 5);
        Due.is("place -1", x.item(0, -1, 1), -13);
        Due.is("place 5", x.item(0, 5, 1), -13);
        Due.is("the least", x.item(0, Integer.MIN_VALUE, 1), -13);
        Due.is("the greatest", x.item(0, Integer.MAX_VALUE, 1), -13);
        Due.is("place 0", x.item(0, 0, 1), 1);
        Due.is("place 4", x.item(0, 4, 1), 1);
    }

    @Says("the first that a call's words name")
    static void noneIsNamedAheadOfNothingAndNothingAheadOfPlace() {
        InnPurposes x = new InnPurposes();
        Due.is("tape and place", x.item(6, -1, 1), -1);
        Due.is("nothing and place", x.item(0, -1, 1), -11);
        Due.is("nothing and place", x.item(0, 60, 1), -11);
    }

    @Says("What is answered so changes nothing")
    static void aRefusedItemChangesNothing() {
        Everything.stays("tape 6", -1, x -> x.item(6, 0, 1));
        Everything.stays("nothing", -11, x -> x.item(5, 0, 1));
        Everything.stays("place 3", -13, x -> x.item(0, 3, 1));
        Everything.stays("place -1", -13, x -> x.item(0, -1, 1));
    }
}
