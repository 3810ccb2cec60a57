import java.util.List;

/** Promise 26: image. */
final class Promise26 {
    private Promise26() {
    }

    @Says("THE IMAGE is taken: how many GUESTS there are")
    static void itTellsHowManyGuestsThereAre() {
        InnPurposes x = new InnPurposes();
        for (int g = 0; g < 6; g++) {
            Due.is("image of " + g, x.image(), g);
            x.guest(g, g, g);
        }
        Due.is("image of six", x.image(), 6);
    }

    @Says("THE IMAGE: PURPOSES, GUESTS with all that is theirs, CELLAR, NIGHT, SEEN, the PLAN, the BOOK, which HOUSE holds.")
    static void theImageIsOfAll() {
        InnPurposes x = Everything.inn();
        InnPurposes alike = Everything.inn();
        x.image();
        alike.image();
        spoil(x);
        x.undo();
        List<String> got = Everything.of(x);
        List<String> want = Everything.of(alike);
        for (int i = 0; i < want.size(); i++) {
            if (!want.get(i).startsWith("house") && !want.get(i).startsWith("count 1")) {
                Due.same("behind undo", got.get(i), want.get(i));
            }
        }
    }

    private static void spoil(InnPurposes x) {
        x.tape(5, 3, 60);
        Inns.feed(x, "1");
        x.house();
        Inns.feed(x, "keep 2");
        x.guest(1, 1, 1);
        for (int g = 0; g < 3; g++) {
            x.set(g, 0, 1 << g);
            x.set(g, 1, 8 << g);
            x.stay(g, x.of(g, 4) == 0);
        }
        for (int part = 0; part < 4; part++) {
            x.row(0, part, 8);
        }
        for (int p = 0; p < 12; p++) {
            x.weight(p, (p + 4) % 10);
        }
        x.pass(7);
        x.see(-1, 0, 0, true);
        x.see(3, 12, 11, false);
        x.plan(-1, 0);
        x.plan(3, 3);
        x.book(-1, 0);
        x.book(1, 1);
        x.tape(5, -1, 0);
    }

    @Says("THE IMAGE is taken")
    static void theImageIsNotSwayedByWhatComesBehindIt() {
        InnPurposes x = Inns.withOne(6, 1, 1);
        x.see(0, 0, 0, true);
        x.plan(1, 0);
        x.book(0, 7);
        x.image();
        x.see(-1, 0, 0, true);
        x.see(0, 0, 5, true);
        x.plan(-1, 0);
        x.plan(3, 0);
        x.set(0, 1, 4095);
        x.book(-1, 0);
        x.book(0, 0);
        x.undo();
        Due.is("what is seen", x.meant(0, 1), 1);
        Due.is("the plan", x.ends(0), 1);
        Due.is("the book", x.looked(), 0);
    }

    @Says("SEEN, the PLAN, the BOOK")
    static void rowsThatAreFullComeBack() {
        InnPurposes x = Inns.withOne(0, 0, 4095);
        for (int p = 0; p < 5; p++) {
            x.see(0, 0, p, true);
        }
        for (int i = 0; i < 10; i++) {
            x.plan(0, 0);
        }
        for (int p = 0; p < 8; p++) {
            x.book(p, p == 7 ? 1 : 0);
        }
        x.image();
        x.see(-1, 0, 0, true);
        for (int p = 0; p < 5; p++) {
            x.see(0, 0, p, false);
        }
        x.plan(-1, 0);
        x.plan(1, 0);
        x.book(-1, 0);
        Due.is("undo", x.undo(), 1);
        Due.is("five are seen", x.count(2), 5);
        Due.is("as they were: how many sets", x.meant(0, 0), 128);
        Due.is("as they were: the least", x.meant(0, 1), 31);
        Due.is("ten nights", x.ends(0), 2);
        Due.is("the eighth row of the book", x.looked(), 7);
        Due.is("a sixth is seen", x.see(0, 0, 0, true), -4);
        Due.is("an eleventh of the plan", x.plan(0, 0), -4);
        Due.is("a ninth of the book", x.book(0, 0), -4);
    }

    @Says("THE IMAGE is taken")
    static void aNewerImageTakesTheOldersPlace() {
        InnPurposes x = Inns.withOne(0, 0, 1);
        x.image();
        x.set(0, 0, 2);
        x.image();
        x.set(0, 0, 4);
        x.undo();
        Due.is("as the newer one", x.of(0, 2), 2);
        x.undo();
        Due.is("as the newer one again", x.of(0, 2), 2);
    }

    @Says("THE IMAGE is taken")
    static void takingItChangesNothingElse() {
        InnPurposes x = Everything.inn();
        InnPurposes alike = Everything.inn();
        x.image();
        List<String> got = Everything.of(x);
        List<String> want = Everything.of(alike);
        for (int i = 0; i < want.indexOf("undo is 3"); i++) {
            Due.same("behind an image", got.get(i), want.get(i));
        }
    }
}
