/** Promise 13: on. */
final class Promise13 {
    private Promise13() {
    }

    @Says({"ON: what 0 how much all MEAN, 10 and x how often PURPOSE x lies in CELLAR, 30 and p what GUEST p MEANS (bits)",
        "what a GUEST MEANS; how often a PURPOSE lies in CELLAR; how much all MEAN, together."})
    static void eachIsToldOnSomeNights() {
        InnPurposes x = Inns.ofSixKinds(0, 0, 2049);
        Due.is("all mean, now", x.on(0, 0), 12);
        Due.is("all mean, behind 1", x.on(1, 0), 6);
        Due.is("purpose 11, behind 1", x.on(1, 21), 6);
        Due.is("purpose 10, behind 1", x.on(1, 20), 0);
        Due.is("guest 0, behind 1", x.on(1, 30), 1);
        Due.is("guest 5, behind 1", x.on(1, 35), 1);
        Due.is("guest 5, behind 2", x.on(2, 35), 0);
        Due.is("purpose 0, behind 2", x.on(2, 10), 6);
        Due.is("purpose 0, behind 3, which lets one go", x.on(3, 10), 5);
    }

    @Says({"ON n NIGHTS (0 .. 60):", "BAD: n"})
    static void nightsAre0To60() {
        InnPurposes x = Inns.oneNightInTen(63);
        Due.is("n -1", x.on(-1, 0), -2);
        Due.is("n 61", x.on(61, 0), -2);
        Due.is("n -1, a guest", x.on(-1, 30), -2);
        Due.is("n 61, a purpose", x.on(61, 10), -2);
        Due.is("the least", x.on(Integer.MIN_VALUE, 0), -2);
        Due.is("the greatest", x.on(Integer.MAX_VALUE, 0), -2);
        Due.is("n 0", x.on(0, 0), 6);
        Due.is("n 59", x.on(59, 0), 1);
        Due.is("n 60", x.on(60, 0), 0);
        Due.is("n 59, the guest", x.on(59, 30), 1);
        Due.is("n 60, the guest", x.on(60, 30), 0);
    }

    @Says("(bits). NONE")
    static void whatIs0And10To21And30On() {
        InnPurposes x = Inns.withOne(0, 0, 3);
        int[] none = {-1, 1, 9, 22, 29, 31, 36, Integer.MIN_VALUE, Integer.MAX_VALUE};
        for (int what : none) {
            Due.is("what " + what, x.on(0, what), -1);
        }
        Due.is("what 10", x.on(0, 10), 0);
        Due.is("what 21", x.on(0, 21), 0);
        Due.is("what 30", x.on(0, 30), 3);
        Due.is("nobody is there", new InnPurposes().on(0, 30), -1);
        Due.is("six are there", Inns.ofSixKinds(0, 0, 3).on(0, 36), -1);
    }

    @Says("the first that a call's words name")
    static void noneIsNamedAheadOfBad() {
        InnPurposes x = Inns.withOne(0, 0, 3);
        Due.is("what and n", x.on(61, 31), -1);
        Due.is("what and n", x.on(-1, 22), -1);
    }

    @Says("what is asked changes nothing")
    static void askingChangesNothing() {
        Everything.stays("all behind 60", Everything.inn().on(60, 0), x -> x.on(60, 0));
        Everything.stays("a purpose", Everything.inn().on(7, 19), x -> x.on(7, 19));
        Everything.stays("a guest", Everything.inn().on(3, 31), x -> x.on(3, 31));
        Everything.stays("what 1", -1, x -> x.on(3, 1));
        Everything.stays("n 61", -2, x -> x.on(61, 0));
    }

    @Says("All that follows is asked, goes on from how all is (NIGHTS beyond 9999, too), and changes nothing.")
    static void nightsGoOnBeyond9999() {
        InnPurposes x = Inns.late(9999);
        x.guest(0, 0, 7);
        x.guest(5, 0, 8);
        Inns.build(x, "leave 99 n>1;leave 99 p=0&n=0;leave 4 p=1&n=0;keep 0");
        Due.is("behind 1, by night 9999", x.on(1, 0), 4);
        Due.is("behind 2, by night 10000: guest 0", x.on(2, 30), 7);
        Due.is("behind 2, by night 10000: guest 1", x.on(2, 31), 0);
        Due.is("behind 3, by night 10001: guest 0", x.on(3, 30), 3);
        Due.is("it lies in the cellar", x.on(3, 12), 1);
        Due.is("behind 60", x.on(60, 0), 0);
        Due.is("night", x.told(0), 9999);
    }

    @Says("goes on from how all is")
    static void askingGoesByWhatIsTheGuestsOwn() {
        InnPurposes x = Inns.withOne(1, 9, 48);
        x.guest(3, 5, 1 << 4 | 1 << 6);
        x.guest(6, 9, 1 << 2 | 1 << 9);
        x.row(2, 1, 4);
        x.row(2, 2, 5);
        x.guest(4, 0, 1 << 4 | 1 << 6);
        x.set(3, 1, 1 << 6);
        x.guest(0, 0, 1 << 10 | 1 << 11);
        x.weight(11, 0);
        Due.is("a lover's v", x.on(1, 30), 1 << 5);
        Due.is("a thief's v", x.on(2, 31), 1 << 4);
        Due.is("a told one's row", x.on(1, 32), 1 << 2);
        Due.is("what a maid lost", x.on(1, 33), 1 << 6);
        Due.is("the last weight", x.on(1, 34), 1 << 11);
    }

    @Says("goes on from how all is")
    static void askingGoesByHowAllIs() {
        InnPurposes x = Inns.withOne(0, 0, 7);
        Due.is("2 goes first", x.on(1, 30), 3);
        x.weight(0, 9);
        Due.is("0 goes first", x.on(1, 30), 6);
        Inns.build(x, "fancy 50 x=1");
        Due.is("1 goes first", x.on(1, 30), 5);
        x.stay(0, false);
        Due.is("none goes", x.on(1, 30), 7);
    }
}
