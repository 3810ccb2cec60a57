/** Promise 31: count. */
final class Promise31 {
    private Promise31() {
    }

    @Says("How many: 0 GUESTS, 1 HOUSES, 2 SEEN, 3 of the PLAN, 4 of the BOOK, 5 bytes of THE TEXT,")
    static void eachIsCountedByItself() {
        InnPurposes x = Inns.withOne(0, 0, 0);
        Inns.build(x, "keep 1");
        Inns.build(x, "keep 1");
        for (int i = 0; i < 5; i++) {
            if (i < 3) {
                x.see(0, 0, 0, true);
            }
            if (i < 4) {
                x.plan(0, 0);
            }
            x.book(0, 0);
        }
        Inns.feed(x, "sixsix");
        for (int what = 0; what < 6; what++) {
            Due.is("count " + what, x.count(what), what + 1);
        }
    }

    @Says("6 bodies that ran in the latest act() (all, kept or not)")
    static void bodiesOfTheLatestActAreCounted() {
        InnPurposes x = Inns.ofSixKinds(1, 0, 0);
        Due.is("no act yet", x.count(6), 0);
        x.act(5, 2, 0);
        Due.is("the longest", x.count(6), 12);
        x.act(0, 0, 0);
        Due.is("the shortest", x.count(6), 1);
        x.act(6, 0, 0);
        Due.is("one that was refused", x.count(6), 0);
    }

    @Says("BAD")
    static void whatIs0To6() {
        InnPurposes x = new InnPurposes();
        Due.is("count -1", x.count(-1), -2);
        Due.is("count 7", x.count(7), -2);
        Due.is("the least", x.count(Integer.MIN_VALUE), -2);
        Due.is("the greatest", x.count(Integer.MAX_VALUE), -2);
        for (int what = 0; what < 7; what++) {
            Due.is("count " + what, x.count(what), 0);
        }
    }

    @Says("what is asked changes nothing")
    static void askingChangesNothing() {
        for (int what = 0; what < 7; what++) {
            int asked = what;
            Everything.stays("count " + what, Everything.inn().count(what), x -> x.count(asked));
        }
        Everything.stays("count 7", -2, x -> x.count(7));
    }
}
