/** Promise 14: lasts. */
final class Promise14 {
    private Promise14() {
    }

    @Says({"LASTS; -5.", "LASTS of a GUEST and a PURPOSE it MEANS: the fewest NIGHTS (1 .. 60) behind which it is taken of it"})
    static void aPurposeLasts1To60() {
        InnPurposes x = Inns.withOne(0, 0, 4095);
        Due.is("the first to go", x.lasts(0, 9), 1);
        Due.is("the last to go", x.lasts(0, 10), 12);
        InnPurposes y = Inns.oneNightInTen(63);
        Due.is("behind 10", y.lasts(0, 5), 10);
        Due.is("behind 60", y.lasts(0, 0), 60);
    }

    @Says("(-5: not by then; it does not mean it).")
    static void notBy60IsMinus5() {
        InnPurposes x = Inns.withHouse("leave 99 n>0");
        x.guest(0, 0, 127);
        Due.is("behind 61", x.lasts(0, 0), -5);
        Due.is("behind 51", x.lasts(0, 1), 51);
        x.stay(0, false);
        Due.is("never", x.lasts(0, 6), -5);
    }

    @Says("(-5: not by then; it does not mean it).")
    static void whatItDoesNotMeanIsMinus5() {
        InnPurposes x = Inns.withOne(0, 0, 2);
        x.set(0, 1, 1);
        Due.is("does not mean 0", x.lasts(0, 0), -5);
        Due.is("means 1", x.lasts(0, 1), 1);
        Due.is("does not mean 2", x.lasts(0, 2), -5);
    }

    @Says("-5. NONE")
    static void guestAndPurposeMustBeThere() {
        InnPurposes x = Inns.withOne(0, 0, 4095);
        Due.is("guest -1", x.lasts(-1, 0), -1);
        Due.is("guest 1", x.lasts(1, 0), -1);
        Due.is("purpose -1", x.lasts(0, -1), -1);
        Due.is("purpose 12", x.lasts(0, 12), -1);
        Due.is("purpose 32, which is 0 modulo 32", x.lasts(0, 32), -1);
        Due.is("purpose 0", x.lasts(0, 0), 11);
        Due.is("purpose 11", x.lasts(0, 11), 10);
    }

    @Says("what is asked changes nothing")
    static void askingChangesNothing() {
        Everything.stays("a purpose", Everything.inn().lasts(1, 0), x -> x.lasts(1, 0));
        Everything.stays("none it means", -5, x -> x.lasts(1, 1));
        Everything.stays("guest 3", -1, x -> x.lasts(3, 1));
    }

    @Says("goes on from how all is (NIGHTS beyond 9999, too)")
    static void nightsGoOnBeyond9999() {
        InnPurposes x = Inns.late(9999);
        x.guest(0, 0, 1);
        Inns.build(x, "leave 99 n<2;leave 99 n>2");
        Due.is("by night 10002", x.lasts(0, 0), 4);
    }
}
