/** Promise 15: decoys. */
final class Promise15 {
    private Promise15() {
    }

    @Says({"DECOYS (bits); -5.", "DECOYS of a GUEST and a PURPOSE it MEANS, and n NIGHTS (1 .. 6):", "BAD: n"})
    static void nightsAre1To6() {
        InnPurposes x = Inns.withOne(0, 0, 8);
        Due.is("n 0", x.decoys(0, 3, 0), -2);
        Due.is("n 7", x.decoys(0, 3, 7), -2);
        Due.is("n -1", x.decoys(0, 3, -1), -2);
        Due.is("the least", x.decoys(0, 3, Integer.MIN_VALUE), -2);
        Due.is("the greatest", x.decoys(0, 3, Integer.MAX_VALUE), -2);
        Due.is("n 1", x.decoys(0, 3, 1), 1 << 4);
        Due.is("n 6", x.decoys(0, 3, 6), 63 << 4);
    }

    @Says("the set with the fewest PURPOSES it does not MEAN (as bits; of several the least as bits)")
    static void theFewestAndOfTheseTheLeast() {
        InnPurposes x = Inns.withOne(0, 0, 128);
        Due.is("one of two", x.decoys(0, 7, 1), 256);
        Due.is("both", x.decoys(0, 7, 2), 768);
        x.set(0, 0, 128 + 256);
        Due.is("what it means is no decoy", x.decoys(0, 7, 2), 512);
        Due.is("none is needed", x.decoys(0, 7, 1), 0);
        x.set(0, 0, 2048);
        Due.is("an earlier one of the same weight", x.decoys(0, 11, 1), 2);
    }

    @Says("by which, did it MEAN these, too, now, it MEANS that one behind n")
    static void itMustBeMeantBehindTheLastNight() {
        InnPurposes x = Inns.withHouse("leave 99 n>0&n<5");
        x.guest(0, 0, 1);
        Due.is("behind 1", x.decoys(0, 0, 1), 2);
        Due.is("behind 5", x.decoys(0, 0, 5), 2);
        Due.is("behind 6", x.decoys(0, 0, 6), 6);
    }

    @Says("(-5: none; it does not mean it)")
    static void thereMayBeNone() {
        InnPurposes x = Inns.withOne(0, 0, 16);
        Due.is("five are there", x.decoys(0, 4, 5), 31 << 5);
        Due.is("six are not", x.decoys(0, 4, 6), -5);
        Due.is("it does not mean it", x.decoys(0, 3, 1), -5);
        x.set(0, 0, 512);
        Due.is("what tempts most", x.decoys(0, 9, 1), -5);
        x.stay(0, false);
        Due.is("not in, none is needed", x.decoys(0, 9, 6), 0);
        Due.is("not in, it does not mean it", x.decoys(0, 8, 6), -5);
    }

    @Says("-5. NONE")
    static void guestAndPurposeMustBeThere() {
        InnPurposes x = Inns.withOne(0, 0, 4095);
        Due.is("guest -1", x.decoys(-1, 0, 1), -1);
        Due.is("guest 1", x.decoys(1, 0, 1), -1);
        Due.is("purpose -1", x.decoys(0, -1, 1), -1);
        Due.is("purpose 12", x.decoys(0, 12, 1), -1);
        Due.is("purpose 32, which is 0 modulo 32", x.decoys(0, 32, 1), -1);
        Due.is("purpose 0", x.decoys(0, 0, 1), 0);
        Due.is("purpose 11", x.decoys(0, 11, 1), 0);
    }

    @Says("the first that a call's words name")
    static void noneIsNamedAheadOfBad() {
        InnPurposes x = Inns.withOne(0, 0, 1);
        Due.is("guest and n", x.decoys(1, 0, 7), -1);
        Due.is("purpose and n", x.decoys(0, 12, 0), -1);
        Due.is("n, and it does not mean it", x.decoys(0, 1, 7), -2);
    }

    @Says("what is asked changes nothing")
    static void askingChangesNothing() {
        Everything.stays("a purpose", Everything.inn().decoys(1, 0, 2), x -> x.decoys(1, 0, 2));
        Everything.stays("it does not mean it", -5, x -> x.decoys(1, 1, 2));
        Everything.stays("n 7", -2, x -> x.decoys(1, 0, 7));
        Everything.stays("guest 3", -1, x -> x.decoys(3, 0, 1));
    }

    @Says("goes on from how all is (NIGHTS beyond 9999, too)")
    static void nightsGoOnBeyond9999() {
        InnPurposes x = Inns.late(9999);
        x.guest(0, 0, 256);
        Inns.build(x, "leave 99 n=0");
        Due.is("behind 2, of which night 10000 takes nothing", x.decoys(0, 8, 2), 512);
        Due.is("behind 3", x.decoys(0, 8, 3), -5);
    }
}
