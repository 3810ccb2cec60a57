/** Promise 18: can. */
final class Promise18 {
    private Promise18() {
    }

    private static void can(InnPurposes x, int guest, int many, int least) {
        Due.is("how many", x.can(guest, 0), many);
        Due.is("the least", x.can(guest, 1), least);
    }

    /** A guest who means 0 and 1, and loses 0 first by these numbers v alone; that is what is seen. */
    private static InnPurposes by(String test) {
        InnPurposes x = Inns.withHouse("fancy 99 x=0&" + test);
        x.guest(0, 5, 3);
        x.see(0, 1, 0, false);
        return x;
    }

    @Says({"CAN of a GUEST: how many numbers v (0 .. 9) likewise; the least (-5: none)", "CAN: what 0 how many, 1 the least; -5."})
    static void numbersAre0To9() {
        can(Inns.withOne(0, 5, 3), 0, 10, 0);
        can(by("v=0"), 0, 1, 0);
        can(by("v=9"), 0, 1, 9);
        can(by("v>0"), 0, 9, 1);
        can(by("v<9"), 0, 9, 0);
        can(by("v>9"), 0, 0, -5);
        can(by("v=4"), 0, 1, 4);
    }

    @Says("CAN of a GUEST: how many numbers v (0 .. 9) likewise")
    static void itGoesByWhatItMeansAndByWhatIsSeenOfIt() {
        InnPurposes x = by("v=9");
        x.guest(0, 0, 3);
        can(x, 1, 10, 0);
        x.see(1, 0, 2, true);
        can(x, 1, 0, -5);
        can(x, 0, 1, 9);
        x.set(0, 0, 2);
        can(x, 0, 10, 0);
        x.see(0, 0, 1, false);
        can(x, 0, 0, -5);
    }

    @Says("1 the least; -5. NONE")
    static void guestAndWhatMustBeThere() {
        InnPurposes x = Inns.withOne(0, 0, 0);
        Due.is("guest -1", x.can(-1, 0), -1);
        Due.is("guest 1", x.can(1, 0), -1);
        Due.is("what -1", x.can(0, -1), -1);
        Due.is("what 2", x.can(0, 2), -1);
        Due.is("nobody is there", new InnPurposes().can(0, 0), -1);
    }

    @Says("what is asked changes nothing")
    static void askingChangesNothing() {
        Everything.stays("how many", Everything.inn().can(1, 0), x -> x.can(1, 0));
        Everything.stays("the least", Everything.inn().can(0, 1), x -> x.can(0, 1));
        Everything.stays("guest 3", -1, x -> x.can(3, 0));
        Everything.stays("what -1", -1, x -> x.can(0, -1));
    }

    @Says("goes on from how all is (NIGHTS beyond 9999, too)")
    static void nightsGoOnBeyond9999() {
        InnPurposes x = Inns.late(9999);
        x.guest(0, 0, 3);
        Inns.build(x, "leave 99 n=9;fancy 50 x=0&v>7&n=0");
        x.see(0, 2, 0, false);
        can(x, 0, 2, 8);
    }
}
