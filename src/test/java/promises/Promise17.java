/** Promise 17: meant. */
final class Promise17 {
    private Promise17() {
    }

    private static void meant(InnPurposes x, int guest, int many, int least) {
        Due.is("how many", x.meant(guest, 0), many);
        Due.is("the least", x.meant(guest, 1), least);
    }

    @Says({"MEANT of a GUEST: how many sets (0 .. 4095) there are by which, were these what it MEANS now",
        "MEANT: what 0 how many, 1 the least; -5."})
    static void setsAre0To4095() {
        InnPurposes x = Inns.withOne(0, 0, 5);
        meant(x, 0, 4096, 0);
        for (int p = 0; p < 5; p++) {
            x.see(0, 0, p, false);
        }
        meant(x, 0, 128, 0);
        x.see(-1, 0, 0, true);
        for (int p = 7; p < 12; p++) {
            x.see(0, 0, p, true);
        }
        meant(x, 0, 128, 31 << 7);
    }

    @Says("NIGHTS n (0 .. 12) from now, a PURPOSE, that it MEANS it then, or not (5 rows at most)")
    static void twelveNightsTakeAllAndElevenLeaveOne() {
        InnPurposes x = Inns.withOne(0, 0, 0);
        x.see(0, 11, 10, true);
        meant(x, 0, 1, 4095);
        x.see(-1, 0, 0, true);
        x.see(0, 12, 10, true);
        meant(x, 0, 0, -5);
        x.see(-1, 0, 0, true);
        x.see(0, 12, 10, false);
        meant(x, 0, 4096, 0);
        x.see(-1, 0, 0, true);
        x.see(0, 0, 10, true);
        meant(x, 0, 2048, 1024);
    }

    @Says("all of SEEN that is of it is so; the least (-5: none)")
    static void allThatIsSeenOfItMustBeSo() {
        InnPurposes x = Inns.ofSixKinds(0, 0, 0);
        x.see(0, 0, 3, true);
        x.see(5, 0, 4, true);
        meant(x, 0, 2048, 8);
        meant(x, 5, 2048, 16);
        meant(x, 4, 4096, 0);
        x.see(0, 0, 3, false);
        meant(x, 0, 0, -5);
        meant(x, 5, 2048, 16);
    }

    @Says("(LOST being as it is)")
    static void whatAMaidLostStaysLost() {
        InnPurposes x = Inns.withOne(4, 0, 0);
        x.see(0, 0, 9, true);
        x.see(0, 1, 9, true);
        meant(x, 0, 0, -5);
        x.set(0, 1, 512);
        meant(x, 0, 2048 - 64, 512 + 16);
    }

    @Says("from now")
    static void theNightsAreThoseFromNowOn() {
        InnPurposes x = Inns.withHouse("leave 99 n<3");
        x.guest(0, 0, 0);
        x.see(0, 1, 0, false);
        x.see(0, 0, 0, true);
        meant(x, 0, 0, -5);
        x.pass(3);
        meant(x, 0, 2, 1);
        x.stay(0, false);
        meant(x, 0, 0, -5);
    }

    @Says("1 the least; -5. NONE")
    static void guestAndWhatMustBeThere() {
        InnPurposes x = Inns.withOne(0, 0, 0);
        Due.is("guest -1", x.meant(-1, 0), -1);
        Due.is("guest 1", x.meant(1, 0), -1);
        Due.is("what -1", x.meant(0, -1), -1);
        Due.is("what 2", x.meant(0, 2), -1);
        Due.is("nobody is there", new InnPurposes().meant(0, 0), -1);
    }

    @Says("what is asked changes nothing")
    static void askingChangesNothing() {
        Everything.stays("how many", Everything.inn().meant(1, 0), x -> x.meant(1, 0));
        Everything.stays("the least", Everything.inn().meant(1, 1), x -> x.meant(1, 1));
        Everything.stays("guest 3", -1, x -> x.meant(3, 0));
        Everything.stays("what 2", -1, x -> x.meant(0, 2));
    }

    @Says("goes on from how all is (NIGHTS beyond 9999, too)")
    static void nightsGoOnBeyond9999() {
        InnPurposes x = Inns.late(9999);
        x.guest(0, 0, 0);
        Inns.build(x, "leave 99 n=0");
        x.see(0, 2, 10, true);
        meant(x, 0, 2048 - 1, 1024 + 1);
        x.see(0, 3, 10, true);
        meant(x, 0, 2048 - 1 - 11, 1024 + 3);
    }
}
