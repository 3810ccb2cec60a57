/** Promise 2: guest. */
final class Promise02 {
    private Promise02() {
    }

    private static InnPurposes six() {
        return Inns.ofSixKinds(0, 1, 1);
    }

    @Says({"GUESTS 0 .. 5, as they come", "A GUEST: its number"})
    static void guestsAreNumberedAsTheyCome() {
        InnPurposes x = new InnPurposes();
        for (int g = 0; g < 6; g++) {
            Due.is("guest", x.guest(6 - g, g, g), g);
            Due.is("its kind", x.of(g, 0), 6 - g);
            Due.is("how many", x.count(0), g + 1);
        }
    }

    @Says("NONE: kind")
    static void kindsAre0To6() {
        InnPurposes x = new InnPurposes();
        Due.is("kind -1", x.guest(-1, 0, 0), -1);
        Due.is("kind 7", x.guest(7, 0, 0), -1);
        Due.is("the least kind", x.guest(Integer.MIN_VALUE, 0, 0), -1);
        Due.is("the greatest kind", x.guest(Integer.MAX_VALUE, 0, 0), -1);
        Due.is("kind 0", x.guest(0, 0, 0), 0);
        Due.is("kind 6", x.guest(6, 0, 0), 1);
    }

    @Says({"BAD: v, means", "with a number v (0 .. 9)"})
    static void vIs0To9() {
        InnPurposes x = new InnPurposes();
        Due.is("v -1", x.guest(0, -1, 0), -2);
        Due.is("v 10", x.guest(0, 10, 0), -2);
        Due.is("the least v", x.guest(0, Integer.MIN_VALUE, 0), -2);
        Due.is("the greatest v", x.guest(0, Integer.MAX_VALUE, 0), -2);
        Due.is("v 0", x.guest(0, 0, 0), 0);
        Due.is("v 9", x.guest(0, 9, 0), 1);
        Due.is("v 0 is", x.of(0, 1), 0);
        Due.is("v 9 is", x.of(1, 1), 9);
    }

    @Says({"BAD: v, means", "MEANS (PURPOSES)"})
    static void meansIs0To4095() {
        InnPurposes x = new InnPurposes();
        Due.is("means -1", x.guest(0, 0, -1), -2);
        Due.is("means 4096", x.guest(0, 0, 4096), -2);
        Due.is("the least means", x.guest(0, 0, Integer.MIN_VALUE), -2);
        Due.is("the greatest means", x.guest(0, 0, Integer.MAX_VALUE), -2);
        Due.is("means 0", x.guest(0, 0, 0), 0);
        Due.is("means 4095", x.guest(0, 0, 4095), 1);
        Due.is("means 0 is", x.of(0, 2), 0);
        Due.is("means 4095 is", x.of(1, 2), 4095);
    }

    @Says("FULL: 6")
    static void theSixthComesAndTheSeventhDoesNot() {
        InnPurposes x = new InnPurposes();
        for (int g = 0; g < 5; g++) {
            x.guest(0, 0, 0);
        }
        Due.is("the sixth", x.guest(0, 0, 0), 5);
        Due.is("the seventh", x.guest(0, 0, 0), -4);
        Due.is("there are", x.count(0), 6);
        Due.is("of the seventh", x.of(6, 0), -10001);
    }

    @Says("the first that a call's words name")
    static void noneIsNamedAheadOfBadAndBadAheadOfFull() {
        InnPurposes x = six();
        Due.is("kind, v, means and full", x.guest(7, 10, 4096), -1);
        Due.is("kind and means", x.guest(-1, 0, -1), -1);
        Due.is("kind and full", x.guest(7, 0, 0), -1);
        Due.is("v and full", x.guest(0, 10, 0), -2);
        Due.is("means and full", x.guest(0, 0, 4096), -2);
    }

    @Says("LOST (PURPOSES; none at first)")
    static void nothingIsLostAtFirst() {
        InnPurposes x = Inns.withOne(4, 9, 4095);
        Due.is("lost", x.of(0, 3), 0);
    }

    @Says("IN, or not (sleeps there; in at first)")
    static void aGuestIsInAtFirst() {
        InnPurposes x = six();
        for (int g = 0; g < 6; g++) {
            Due.is("guest " + g + " is in", x.of(g, 4), 1);
        }
        Due.is("all are in", x.told(4), 63);
    }

    @Says({"LOST (PURPOSES; none at first)", "IN, or not (sleeps there; in at first)"})
    static void aGuestWhoComesInAnothersPlaceHasNothingOfIt() {
        InnPurposes x = new InnPurposes();
        x.image();
        x.guest(6, 1, 3);
        x.row(0, 2, 7);
        x.stay(0, false);
        x.set(0, 1, 9);
        x.undo();
        Due.is("comes again", x.guest(6, 2, 5), 0);
        Due.is("lost nothing", x.of(0, 3), 0);
        Due.is("is in", x.of(0, 4), 1);
        Due.is("its row", x.row(0, 2, 0), 0);
    }

    @Says("What is answered so changes nothing")
    static void aRefusedGuestChangesNothing() {
        Everything.stays("kind 7", -1, x -> x.guest(7, 0, 0));
        Everything.stays("v 10", -2, x -> x.guest(0, 10, 0));
        Everything.stays("means 4096", -2, x -> x.guest(0, 0, 4096));
        Everything.stays("a seventh", -4, x -> x.guest(1, 1, 1) + x.guest(2, 2, 2) + x.guest(3, 3, 3),
            x -> x.guest(6, 9, 4095));
    }
}
