/** Promise 27: undo. */
final class Promise27 {
    private Promise27() {
    }

    @Says("STATE: there is none")
    static void withoutAnImageNothingIsUndone() {
        InnPurposes x = Inns.withOne(0, 0, 3);
        x.pass(1);
        Due.is("undo", x.undo(), -3);
        Due.is("undo again", x.undo(), -3);
        Due.is("night", x.told(0), 1);
        Due.is("guests", x.count(0), 1);
        Due.is("means", x.of(0, 2), 1);
        x.image();
        Due.is("with an image", x.undo(), 1);
    }

    @Says("All is as THE IMAGE: how many GUESTS.")
    static void itTellsHowManyGuestsThereAreThen() {
        InnPurposes x = new InnPurposes();
        x.image();
        for (int g = 0; g < 6; g++) {
            x.guest(0, 0, 1);
        }
        Due.is("none, as before", x.undo(), 0);
        Due.is("nobody is there", x.of(0, 0), -10001);
        for (int g = 0; g < 6; g++) {
            x.guest(g, 0, 1);
        }
        x.image();
        Due.is("six", x.undo(), 6);
        Due.is("the sixth", x.of(5, 0), 5);
    }

    @Says("All is as THE IMAGE")
    static void itMayBeDoneAgainAndAgain() {
        InnPurposes x = Inns.withOne(0, 0, 7);
        x.image();
        for (int time = 0; time < 3; time++) {
            x.pass(time + 1);
            x.weight(5, time);
            Due.is("undo", x.undo(), 1);
            Due.is("means", x.of(0, 2), 7);
            Due.is("lost", x.of(0, 3), 0);
            Due.is("night", x.told(0), 0);
            Due.is("weight", x.told(35), 5);
            Due.is("cellar", x.told(12), 0);
        }
    }

    @Says("which HOUSE holds")
    static void theHouseThatHeldHoldsAgain() {
        InnPurposes x = Inns.withOne(0, 0, 1);
        x.image();
        Inns.build(x, "fancy 9 x=0;keep 7");
        x.undo();
        Due.is("none held: keep", x.told(1), 3);
        Due.is("none held: sum", x.of(0, 10), 5);
        Due.is("it is there all the same", x.count(1), 1);
        Due.is("the next one's number", Inns.build(x, "fancy 4 x=0"), 1);
        x.image();
        Inns.build(x, "keep 9");
        x.undo();
        Due.is("the second held: keep", x.told(1), 3);
        Due.is("the second held: sum", x.of(0, 10), 9);
    }

    @Says("THE IMAGE: PURPOSES, GUESTS with all that is theirs, CELLAR, NIGHT, SEEN, the PLAN, the BOOK, which HOUSE holds.")
    static void whatTheImageIsNotOfStays() {
        InnPurposes x = Inns.withOne(0, 0, 0);
        x.image();
        Inns.feed(x, "keep 8");
        x.tape(0, 0, 3);
        x.item(0, 1, 9);
        x.act(0, 2, 3);
        x.undo();
        Due.is("THE TEXT", x.count(5), 6);
        Due.is("a tape", x.read(0, 1), 9);
        Due.is("THE TRACE", x.trace(0), 12);
        Due.is("all of it", x.count(6), 3);
        x.house();
        Due.is("what THE TEXT was", x.told(1), 8);
    }
}
