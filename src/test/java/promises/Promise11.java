/** Promise 11: told. */
final class Promise11 {
    private Promise11() {
    }

    /** One guest can then give another one this purpose. */
    private static void gives(InnPurposes x, int from, int to, int purpose) {
        x.set(from, 0, x.of(from, 2) | 1 << purpose);
        x.set(to, 1, x.of(to, 3) | 1 << purpose);
    }

    @Says({"What 0 NIGHT, 1 KEEP, 2 how much all MEAN, together, 3 RING, 4 which GUESTS are IN (bits),",
        "10 and x how often PURPOSE x lies in CELLAR, 30 and x its WEIGHT."})
    static void eachIsTold() {
        InnPurposes x = Inns.withHouse("keep 5");
        x.guest(0, 0, 2049);
        x.guest(0, 0, 2048);
        x.set(1, 1, 1);
        x.weight(11, 8);
        x.pass(1);
        Due.is("night", x.told(0), 1);
        Due.is("keep", x.told(1), 5);
        Due.is("all mean", x.told(2), 1);
        Due.is("ring", x.told(3), 0);
        Due.is("who is in", x.told(4), 3);
        Due.is("purpose 0 in the cellar", x.told(10), 0);
        Due.is("purpose 11 in the cellar", x.told(21), 2);
        Due.is("weight of 0", x.told(30), 0);
        Due.is("weight of 11", x.told(41), 8);
    }

    @Says("30 and x its WEIGHT. NONE")
    static void whatIs0To4And10To21And30To41() {
        InnPurposes x = new InnPurposes();
        int[] none = {-1, 5, 6, 9, 22, 29, 42, Integer.MIN_VALUE, Integer.MAX_VALUE};
        for (int what : none) {
            Due.is("told " + what, x.told(what), -1);
        }
        int[] some = {0, 4, 10, 21, 30};
        for (int what : some) {
            Due.is("told " + what, x.told(what), 0);
        }
        Due.is("told 41", x.told(41), 1);
    }

    @Says("what is asked changes nothing")
    static void beingToldChangesNothing() {
        for (int what = 0; what < 42; what += what == 4 ? 6 : what == 21 ? 9 : 1) {
            int asked = what;
            Everything.stays("told " + what, Everything.inn().told(what), x -> x.told(asked));
        }
        Everything.stays("told 42", -1, x -> x.told(42));
    }

    @Says("KEEP (3 without): the last one's n.")
    static void keepIs3OrTheLastOnes() {
        Due.is("no house", new InnPurposes().told(1), 3);
        Due.is("a house without", Inns.withHouse("fancy 9 x=0").told(1), 3);
        Due.is("0", Inns.withHouse("keep 0").told(1), 0);
        Due.is("99", Inns.withHouse("keep 99").told(1), 99);
        Due.is("the last of three", Inns.withHouse("keep 9;fancy 9 x=0;keep 8;keep 1;leave 2 p=0").told(1), 1);
    }

    @Says("2 how much all MEAN, together")
    static void allMeanUpTo72() {
        InnPurposes x = Inns.ofSixKinds(0, 0, 4095);
        Due.is("six with twelve", x.told(2), 72);
        x.stay(5, false);
        x.set(5, 0, 2048);
        Due.is("one of them not in, with one", x.told(2), 61);
    }

    @Says("4 which GUESTS are IN (bits)")
    static void whoIsInIsToldByBits() {
        InnPurposes x = Inns.ofSixKinds(0, 0, 0);
        Due.is("all", x.told(4), 63);
        for (int g = 0; g < 6; g++) {
            x.stay(g, false);
            Due.is("all but " + g, x.told(4), 63 - (1 << g));
            x.stay(g, true);
        }
        for (int g = 0; g < 6; g++) {
            x.stay(g, false);
        }
        Due.is("none", x.told(4), 0);
    }

    @Says("GIVES: one GUEST can give another one a PURPOSE, if it MEANS that, and the other LOST it and does not MEAN it.")
    static void aGiftIsMeantByOneAndLostAndNotMeantByTheOther() {
        InnPurposes x = Inns.withOne(0, 0, 1);
        x.guest(0, 0, 2048);
        x.set(0, 1, 2048);
        x.set(1, 1, 1);
        Due.is("both can", x.told(3), 2);
        x.set(0, 0, 0);
        Due.is("one does not mean it", x.told(3), 0);
        x.set(0, 0, 1);
        x.set(1, 1, 2);
        Due.is("the other did not lose it", x.told(3), 0);
        x.set(1, 1, 1);
        x.set(1, 0, 2049);
        Due.is("the other means it", x.told(3), 0);
        x.set(1, 0, 2048);
        x.stay(0, false);
        Due.is("in or not", x.told(3), 2);
    }

    @Says("RING: the greatest number of GUESTS who stand in a ring, each able to give something to the next, the last to the first")
    static void theGreatestRingCounts() {
        InnPurposes x = Inns.ofSixKinds(0, 0, 0);
        for (int g = 0; g < 5; g++) {
            gives(x, g, g + 1, g);
        }
        Due.is("a row of six", x.told(3), 0);
        gives(x, 1, 0, 6);
        Due.is("two at its beginning", x.told(3), 2);
        gives(x, 5, 3, 7);
        Due.is("three at its end", x.told(3), 3);
        gives(x, 4, 0, 8);
        Due.is("five", x.told(3), 5);
        gives(x, 5, 0, 9);
        Due.is("all six", x.told(3), 6);
    }

    @Says("(0: none; 2 at least)")
    static void noRingIsOfOne() {
        Due.is("nobody", new InnPurposes().told(3), 0);
        InnPurposes x = Inns.withOne(0, 0, 4095);
        x.set(0, 1, 4095);
        Due.is("one that lost what it means", x.told(3), 0);
        x.set(0, 0, 1);
        x.guest(0, 0, 2);
        x.set(0, 1, 2);
        Due.is("one can give, the other can't", x.told(3), 0);
        x.set(1, 1, 1);
        Due.is("both can", x.told(3), 2);
    }

    @Says("stand in a ring")
    static void aRingMayGoOneWayRoundAlone() {
        InnPurposes x = Inns.ofSixKinds(0, 0, 0);
        gives(x, 0, 1, 0);
        gives(x, 0, 2, 1);
        gives(x, 1, 2, 2);
        gives(x, 2, 1, 3);
        Due.is("two of them", x.told(3), 2);
        gives(x, 2, 0, 4);
        Due.is("all three, by 1 and 2", x.told(3), 3);
        x.set(2, 0, 1 << 3);
        gives(x, 1, 0, 5);
        Due.is("all three, by 2 and 1", x.told(3), 3);
    }

    @Says("stand in a ring")
    static void aRingGoesInAnyOrderAndRoundOnce() {
        InnPurposes x = Inns.ofSixKinds(0, 0, 0);
        int[] order = {4, 1, 5, 0, 3, 2};
        for (int i = 0; i < 6; i++) {
            gives(x, order[i], order[(i + 1) % 6], i);
        }
        Due.is("all six, in another order", x.told(3), 6);
        InnPurposes y = Inns.ofSixKinds(0, 0, 0);
        gives(y, 0, 1, 0);
        gives(y, 1, 0, 1);
        gives(y, 0, 2, 2);
        gives(y, 2, 0, 3);
        Due.is("two rings through one guest are no greater one", y.told(3), 2);
    }
}
