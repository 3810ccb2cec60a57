/** Promise 12: pass. */
final class Promise12 {
    private Promise12() {
    }

    /** Six guests, and a cellar in which purpose 0 lies this often, up to 99. */
    private static InnPurposes withCellar(int often) {
        InnPurposes x = Inns.withHouse("keep 0");
        for (int g = 0; g < 6; g++) {
            x.guest(0, 0, 0);
        }
        for (int left = often; left > 0; left -= 6) {
            for (int g = 0; g < 6; g++) {
                x.set(g, 0, g < left ? 1 : 0);
            }
            x.pass(1);
        }
        return x;
    }

    @Says({"n NIGHTS (0 .. 60) go: NIGHT.", "BAD"})
    static void nightsAre0To60() {
        InnPurposes x = new InnPurposes();
        Due.is("n -1", x.pass(-1), -2);
        Due.is("n 61", x.pass(61), -2);
        Due.is("the least", x.pass(Integer.MIN_VALUE), -2);
        Due.is("the greatest", x.pass(Integer.MAX_VALUE), -2);
        Due.is("n 0", x.pass(0), 0);
        Due.is("n 60", x.pass(60), 60);
        Due.is("n 1", x.pass(1), 61);
    }

    @Says("n NIGHTS (0 .. 60) go")
    static void asManyNightsGo() {
        InnPurposes x = Inns.withOne(0, 0, 4095);
        x.pass(0);
        Due.is("behind 0", x.told(2), 12);
        x.pass(1);
        Due.is("behind 1", x.told(2), 11);
        x.pass(10);
        Due.is("behind 11", x.told(2), 1);
        x.pass(1);
        Due.is("behind 12", x.told(2), 0);
        InnPurposes y = Inns.oneNightInTen(63);
        y.pass(59);
        Due.is("behind 59", y.told(2), 1);
        y = Inns.oneNightInTen(63);
        y.pass(60);
        Due.is("behind 60", y.told(2), 0);
    }

    @Says("STATE: it would be above 9999")
    static void nightGoesTo9999() {
        InnPurposes x = Inns.late(9939);
        Due.is("60 more", x.pass(60), 9999);
        Due.is("one more", x.pass(1), -3);
        Due.is("none more", x.pass(0), 9999);
        Due.is("60 more", x.pass(60), -3);
        Due.is("night", x.told(0), 9999);
        InnPurposes y = Inns.late(9940);
        Due.is("60 more", y.pass(60), -3);
        Due.is("59 more", y.pass(59), 9999);
    }

    @Says("the first that a call's words name")
    static void badIsNamedAheadOfState() {
        InnPurposes x = Inns.late(9999);
        Due.is("n 61", x.pass(61), -2);
        Due.is("n -1", x.pass(-1), -2);
    }

    @Says("What is answered so changes nothing")
    static void refusedNightsChangeNothing() {
        Everything.stays("n 61", -2, x -> x.pass(61));
        Everything.stays("n -1", -2, x -> x.pass(-1));
        InnPurposes x = Inns.late(9998);
        x.guest(0, 0, 7);
        Due.is("two more", x.pass(2), -3);
        Due.is("night", x.told(0), 9998);
        Due.is("nothing is taken", x.of(0, 2), 7);
        Due.is("nothing lies there", x.told(12), 0);
    }

    @Says({"A NIGHT goes", "of each GUEST that has PREY it is taken: it MEANS that no more, LOST it,"})
    static void whatIsTakenIsLost() {
        InnPurposes x = Inns.withOne(0, 0, 2049);
        x.set(0, 1, 2);
        x.guest(0, 0, 0);
        x.guest(0, 0, 2048);
        x.stay(2, false);
        x.pass(1);
        Due.is("means 11 no more", x.of(0, 2), 1);
        Due.is("lost it too", x.of(0, 3), 2050);
        Due.is("who means nothing loses nothing", x.of(1, 3), 0);
        Due.is("who is not in means as before", x.of(2, 2), 2048);
        Due.is("and loses nothing", x.of(2, 3), 0);
        Due.is("it lies in the cellar", x.told(21), 1);
    }

    @Says("by how all is ahead of it")
    static void aNightGoesByItsOwnNumber() {
        InnPurposes x = Inns.withHouse("leave 99 n=0;leave 99 n>1;keep 0");
        x.guest(0, 0, 7);
        x.pass(1);
        Due.is("night 0 takes nothing", x.of(0, 2), 7);
        x.pass(1);
        Due.is("night 1 takes", x.of(0, 2), 3);
        x.pass(1);
        Due.is("night 2 takes nothing", x.of(0, 2), 3);
    }

    @Says("by how all is ahead of it")
    static void tenNightsLaterItGoesByHowAllIsThen() {
        InnPurposes x = Inns.withOne(0, 0, 7);
        x.pass(1);
        Due.is("2 tempts most", x.of(0, 2), 3);
        x.stay(0, false);
        x.pass(9);
        x.stay(0, true);
        x.set(0, 0, 7);
        x.weight(0, 9);
        x.pass(1);
        Due.is("0 tempts most", x.of(0, 2), 6);
        x.stay(0, false);
        x.pass(9);
        x.stay(0, true);
        x.set(0, 0, 7);
        x.weight(1, 9);
        x.weight(0, 0);
        x.pass(1);
        Due.is("1 tempts most", x.of(0, 2), 5);
    }

    @Says("by how all is ahead of it")
    static void whatIsTakenOfOneDoesNotSwayAnother() {
        InnPurposes x = Inns.ofSixKinds(0, 0, 1);
        x.pass(1);
        Due.is("of all but the general and the child", x.told(10), 6);
        Due.is("none means anything", x.told(2), 0);
    }

    @Says({"and it lies in CELLAR once more (99 at most).", "CELLAR: how often each PURPOSE lies there (0 .. 99; 0 at first)"})
    static void inTheCellarItLies99TimesAtMost() {
        InnPurposes x = withCellar(98);
        Due.is("98 lie there", x.told(10), 98);
        x.set(0, 0, 1);
        x.pass(1);
        Due.is("99", x.told(10), 99);
        x.set(0, 0, 1);
        x.pass(1);
        Due.is("not 100", x.told(10), 99);
        Due.is("it is taken all the same", x.of(0, 2), 0);
        Due.is("and lost", x.of(0, 3), 1);
    }

    @Says("once more (99 at most)")
    static void severalInOneNightFillTheCellarTo99() {
        InnPurposes x = withCellar(97);
        for (int g = 0; g < 6; g++) {
            x.set(g, 0, 1);
        }
        x.pass(1);
        Due.is("six more than 97", x.told(10), 99);
        Due.is("none means anything", x.told(2), 0);
    }

    @Says("NIGHT is 1 more; if it is a multiple of KEEP then (KEEP 0: never), each PURPOSE lies in CELLAR once less")
    static void byMultiplesOfKeepOneLessLiesThere() {
        InnPurposes x = Inns.withHouse("keep 4");
        x.guest(0, 0, 2049);
        x.pass(3);
        Due.is("night 3, purpose 0", x.told(10), 1);
        Due.is("night 3, purpose 11", x.told(21), 1);
        x.pass(1);
        Due.is("night 4, purpose 0", x.told(10), 0);
        Due.is("night 4, purpose 11", x.told(21), 0);
        x.set(0, 0, 2049);
        x.pass(3);
        Due.is("night 7", x.told(10), 1);
        x.pass(1);
        Due.is("night 8", x.told(10), 0);
    }

    @Says("(KEEP 0: never)")
    static void byKeep0NothingGoes() {
        InnPurposes x = Inns.withHouse("keep 0");
        x.guest(0, 0, 4095);
        x.pass(60);
        for (int p = 0; p < 12; p++) {
            Due.is("purpose " + p, x.told(10 + p), 1);
        }
    }

    @Says("if it is a multiple of KEEP then")
    static void byKeep1ThatOfTheNightItselfGoes() {
        InnPurposes x = Inns.withHouse("keep 1");
        x.guest(0, 0, 1);
        x.guest(0, 0, 1);
        x.pass(1);
        Due.is("of two one lies there", x.told(10), 1);
        x.pass(1);
        Due.is("then none", x.told(10), 0);
    }

    @Says("if it is a multiple of KEEP then")
    static void byKeep99TheFirstGoesByNight99() {
        InnPurposes x = Inns.withHouse("keep 99");
        x.guest(0, 0, 1);
        x.pass(60);
        x.pass(38);
        Due.is("night 98", x.told(10), 1);
        x.pass(1);
        Due.is("night 99", x.told(10), 0);
    }

    @Says("once less (0 at least)")
    static void inTheCellarItLies0TimesAtLeast() {
        InnPurposes x = Inns.withHouse("keep 1");
        x.pass(2);
        Due.is("none lies there", x.told(10), 0);
        x.guest(0, 0, 1);
        x.guest(0, 0, 1);
        x.pass(1);
        Due.is("one of two", x.told(10), 1);
    }

    @Says("once more (99 at most)")
    static void ofMoreThan99OneLessIs98() {
        InnPurposes x = withCellar(99);
        Inns.build(x, "keep 1");
        x.set(0, 0, 1);
        x.pass(1);
        Due.is("99 at most, then one less", x.told(10), 98);
    }

    @Says("NIGHT is 1 more; if it is a multiple of KEEP then")
    static void withoutAHouseThreeIsKept() {
        InnPurposes x = Inns.withOne(0, 0, 1);
        x.pass(2);
        Due.is("night 2", x.told(10), 1);
        x.pass(1);
        Due.is("night 3", x.told(10), 0);
    }
}
