/** Promise 34: read. */
final class Promise34 {
    private Promise34() {
    }

    @Says("Item i of a TAPE.")
    static void eachItemIsRead() {
        InnPurposes x = new InnPurposes();
        for (int t = 0; t < 6; t += 5) {
            x.tape(t, 3, 60);
            for (int i = 0; i < 60; i++) {
                x.item(t, i, 1000L * i + t);
            }
            for (int i = 0; i < 60; i++) {
                Due.is("item " + i, x.read(t, i), 1000L * i + t);
            }
        }
    }

    @Says("NO: no such TAPE")
    static void theTapeMustBeThere() {
        InnPurposes x = new InnPurposes();
        x.tape(0, 0, 1);
        x.tape(5, 0, 1);
        Due.is("tape -1", x.read(-1, 0), InnPurposes.NO);
        Due.is("tape 6", x.read(6, 0), InnPurposes.NO);
        Due.is("the least", x.read(Integer.MIN_VALUE, 0), InnPurposes.NO);
        Due.is("the greatest", x.read(Integer.MAX_VALUE, 0), InnPurposes.NO);
        Due.is("tape 0", x.read(0, 0), 0);
        Due.is("tape 5", x.read(5, 0), 0);
    }

    @Says("nothing there,")
    static void somethingMustBeThere() {
        InnPurposes x = new InnPurposes();
        Due.is("nothing at first", x.read(0, 0), InnPurposes.NO);
        x.tape(0, 4, 1);
        Due.is("something", x.read(0, 0), 0);
        x.tape(0, -1, 1);
        Due.is("nothing again", x.read(0, 0), InnPurposes.NO);
    }

    @Says("no such place")
    static void thePlaceMustBeThere() {
        InnPurposes x = new InnPurposes();
        x.tape(0, 2, 5);
        Due.is("place -1", x.read(0, -1), InnPurposes.NO);
        Due.is("place 5", x.read(0, 5), InnPurposes.NO);
        Due.is("the least", x.read(0, Integer.MIN_VALUE), InnPurposes.NO);
        Due.is("the greatest", x.read(0, Integer.MAX_VALUE), InnPurposes.NO);
        Due.is("place 0", x.read(0, 0), 0);
        Due.is("place 4", x.read(0, 4), 0);
        x.tape(0, 2, 0);
        Due.is("place 0 of an empty row", x.read(0, 0), InnPurposes.NO);
    }

    @Says("what is asked changes nothing")
    static void askingChangesNothing() {
        Everything.stays("an item", 7, x -> x.read(0, 1));
        Everything.stays("tape 6", InnPurposes.NO, x -> x.read(6, 0));
        Everything.stays("place 3", InnPurposes.NO, x -> x.read(0, 3));
        Everything.stays("nothing there", InnPurposes.NO, x -> x.read(5, 0));
    }
}
