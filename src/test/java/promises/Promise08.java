/** Promise 8: row. */
final class Promise08 {
    private Promise08() {
    }

    @Says({"The ROW of a TOLD one becomes n (0 .. 9) for PURPOSES modulo 4 being part: what it was.",
        "its ROW (four numbers 0 .. 9; 0 at first)"})
    static void eachOfFourPartsTellsWhatItWas() {
        InnPurposes x = Inns.withOne(6, 9, 0);
        for (int part = 0; part < 4; part++) {
            Due.is("part " + part + " was 0", x.row(0, part, 9 - part), 0);
        }
        for (int part = 0; part < 4; part++) {
            Due.is("part " + part + " was", x.row(0, part, 0), 9 - part);
        }
        x.row(0, 3, 6);
        int[] due = {0, 0, 0, 6, 0, 0, 0, 6, 0, 23, 0, 6};
        for (int p = 0; p < 12; p++) {
            Due.is("tempts of " + p, x.of(0, 10 + p), due[p]);
        }
    }

    @Says("BAD")
    static void nIs0To9() {
        InnPurposes x = Inns.withOne(6, 0, 0);
        Due.is("n -1", x.row(0, 0, -1), -2);
        Due.is("n 10", x.row(0, 0, 10), -2);
        Due.is("the least", x.row(0, 0, Integer.MIN_VALUE), -2);
        Due.is("the greatest", x.row(0, 0, Integer.MAX_VALUE), -2);
        Due.is("n 9", x.row(0, 0, 9), 0);
        Due.is("n 0", x.row(0, 0, 0), 9);
    }

    @Says("NONE: guest, part")
    static void guestAndPartMustBeThere() {
        InnPurposes x = Inns.withOne(6, 0, 0);
        Due.is("guest -1", x.row(-1, 0, 0), -1);
        Due.is("guest 1", x.row(1, 0, 0), -1);
        Due.is("part -1", x.row(0, -1, 0), -1);
        Due.is("part 4", x.row(0, 4, 0), -1);
        Due.is("part 3", x.row(0, 3, 0), 0);
        Due.is("part 0", x.row(0, 0, 0), 0);
    }

    @Says("STATE: another KIND")
    static void onlyAToldOneHasARow() {
        InnPurposes x = Inns.ofSixKinds(0, 0, 0);
        for (int g = 0; g < 6; g++) {
            Due.is("kind " + g, x.row(g, 0, 1), -3);
        }
        Due.is("kind 6", Inns.withOne(6, 0, 0).row(0, 0, 1), 0);
    }

    @Says("the first that a call's words name")
    static void noneIsNamedAheadOfBadAndBadAheadOfState() {
        InnPurposes x = Inns.withOne(3, 0, 0);
        Due.is("guest, part, n", x.row(1, 4, 10), -1);
        Due.is("part, n, another kind", x.row(0, 4, 10), -1);
        Due.is("part, another kind", x.row(0, 4, 0), -1);
        Due.is("n, another kind", x.row(0, 0, 10), -2);
    }

    @Says("What is answered so changes nothing")
    static void aRefusedRowChangesNothing() {
        Everything.stays("guest 3", -1, x -> x.row(3, 0, 7));
        Everything.stays("part 4", -1, x -> x.row(0, 4, 7));
        Everything.stays("n 10", -2, x -> x.row(0, 1, 10));
        Everything.stays("another kind", -3, x -> x.row(2, 1, 7));
    }
}
