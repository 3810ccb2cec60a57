/** Promise 22: ends. */
final class Promise22 {
    private Promise22() {
    }

    private static void ends(InnPurposes x, int mean, int lies) {
        Due.is("all mean at the end", x.ends(0), mean);
        Due.is("lies in the cellar at the end", x.ends(1), lies);
    }

    @Says({"ENDS: how much all MEAN, together; how much lies in CELLAR, together.",
        "ENDS: what 0 how much all MEAN, 1 how much lies in CELLAR."})
    static void anEmptyPlanEndsAsAllIs() {
        ends(new InnPurposes(), 0, 0);
        InnPurposes x = Inns.withHouse("keep 0");
        for (int g = 0; g < 6; g++) {
            x.guest(0, 0, 4095);
        }
        ends(x, 72, 0);
        x.pass(12);
        ends(x, 0, 72);
    }

    @Says("how much lies in CELLAR, together")
    static void eachPurposeInTheCellarCounts() {
        for (int p = 0; p < 12; p++) {
            InnPurposes x = Inns.withOne(0, 0, 1 << p);
            x.plan(0, 0);
            ends(x, 0, 1);
        }
    }

    @Says("A PLAN told by hand: what goes (0 a NIGHT,")
    static void nightsGo() {
        InnPurposes x = Inns.withOne(0, 0, 4095);
        x.plan(0, 0);
        x.plan(0, 0);
        ends(x, 10, 2);
        x.plan(0, 0);
        Due.is("night 3 lets one of each go", x.ends(1), 0);
        for (int i = 0; i < 7; i++) {
            x.plan(0, 0);
        }
        ends(x, 2, 1);
    }

    @Says("1 a GUEST is not IN, 2 it is,")
    static void guestsGoAndComeBack() {
        InnPurposes x = Inns.ofSixKinds(0, 0, 7);
        x.plan(1, 5);
        x.plan(0, 0);
        Due.is("five lose one", x.ends(0), 13);
        x.plan(1, 5);
        x.plan(0, 0);
        Due.is("and one more", x.ends(0), 8);
        x.plan(2, 5);
        x.plan(2, 5);
        x.plan(0, 0);
        Due.is("all lose one", x.ends(0), 2);
        x.stay(0, false);
        Due.is("but who is not in now", x.ends(0), 5);
    }

    @Says("3 a GUEST MEANS all it LOST again, none of it being LOST then;")
    static void aGuestMeansAllItLostAgain() {
        InnPurposes x = Inns.withOne(0, 0, 6);
        x.set(0, 1, 2060);
        x.plan(3, 0);
        ends(x, 4, 0);
        x.plan(3, 0);
        ends(x, 4, 0);
        x.plan(0, 0);
        ends(x, 3, 1);
        x.plan(3, 0);
        ends(x, 4, 1);
    }

    @Says("none of it being LOST then")
    static void aMaidIsTemptedAgainOfWhatSheLost() {
        InnPurposes x = Inns.withHouse("leave 20 x=9;keep 0");
        x.guest(4, 0, 512);
        x.set(0, 1, 512);
        x.plan(0, 0);
        ends(x, 1, 0);
        x.plan(3, 0);
        x.plan(0, 0);
        ends(x, 0, 1);
    }

    @Says("1 how much lies in CELLAR. NONE")
    static void whatIs0Or1() {
        InnPurposes x = Inns.withOne(0, 0, 1);
        Due.is("what -1", x.ends(-1), -1);
        Due.is("what 2", x.ends(2), -1);
        ends(x, 1, 0);
    }

    @Says("what is asked changes nothing")
    static void askingChangesNothing() {
        Everything.stays("all mean", Everything.inn().ends(0), x -> x.ends(0));
        Everything.stays("the cellar", Everything.inn().ends(1), x -> x.ends(1));
        Everything.stays("what 2", -1, x -> x.ends(2));
        Everything.stays("a plan of all that goes", -5, x -> x.plan(1, 1) + x.plan(2, 2) + x.plan(3, 0), x -> {
            x.ends(1);
            return -5;
        });
    }

    @Says("goes on from how all is (NIGHTS beyond 9999, too)")
    static void nightsGoOnBeyond9999() {
        InnPurposes x = Inns.late(9999);
        x.guest(0, 0, 7);
        Inns.build(x, "leave 99 n=0;keep 0");
        x.plan(0, 0);
        x.plan(0, 0);
        ends(x, 2, 1);
        x.plan(0, 0);
        ends(x, 1, 2);
    }
}
