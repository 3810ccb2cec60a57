/** Promise 19: odds. */
final class Promise19 {
    private Promise19() {
    }

    private static void odds(InnPurposes x, int above, int below) {
        Due.is("above the line", x.odds(0, 0), above);
        Due.is("below the line", x.odds(0, 1), below);
    }

    @Says({"ODDS of a GUEST: if one PURPOSE, each of 12 alike likely, comes to what it MEANS now: how likely its PREY is another one than as it is",
        "ODDS; part 0 above, 1 below the line."})
    static void whatTemptsMoreChangesThePrey() {
        InnPurposes x = Inns.withOne(0, 0, 16);
        odds(x, 5, 12);
        x.set(0, 0, 32);
        x.set(0, 1, 64);
        odds(x, 1, 3);
        x.set(0, 0, 1024);
        odds(x, 11, 12);
        x.set(0, 0, 1);
        odds(x, 5, 6);
        x.weight(11, 0);
        odds(x, 3, 4);
    }

    @Says("(or is one, being none)")
    static void anyPreyIsOneWhereNoneWas() {
        InnPurposes x = Inns.withOne(0, 0, 0);
        odds(x, 1, 1);
        Inns.build(x, "leave 99 x<11");
        odds(x, 1, 12);
        x.set(0, 0, 7);
        odds(x, 1, 12);
        x.set(0, 0, 2048);
        odds(x, 0, 1);
    }

    @Says("how likely its PREY is another one than as it is (or is one, being none): a fraction in lowest terms.")
    static void theFractionIsInLowestTerms() {
        int[] above = {0, 1, 1, 1, 1, 5};
        int[] below = {1, 12, 6, 4, 3, 12};
        for (int i = 0; i < above.length; i++) {
            odds(Inns.withOne(0, 0, 1 << 9 - i), above[i], below[i]);
        }
    }

    @Says("how likely its PREY is another one")
    static void whoIsNotInHasNoPreyByAny() {
        InnPurposes x = Inns.withOne(0, 0, 0);
        x.stay(0, false);
        odds(x, 0, 1);
        x.set(0, 0, 4095);
        odds(x, 0, 1);
        x.stay(0, true);
        odds(x, 0, 1);
    }

    @Says("below the line. NO: guest, part")
    static void guestAndPartMustBeThere() {
        InnPurposes x = Inns.withOne(0, 0, 0);
        Due.is("guest -1", x.odds(-1, 0), InnPurposes.NO);
        Due.is("guest 1", x.odds(1, 0), InnPurposes.NO);
        Due.is("part -1", x.odds(0, -1), InnPurposes.NO);
        Due.is("part 2", x.odds(0, 2), InnPurposes.NO);
        Due.is("nobody is there", new InnPurposes().odds(0, 1), InnPurposes.NO);
    }

    @Says("what is asked changes nothing")
    static void askingChangesNothing() {
        Everything.stays("above the line", Everything.inn().odds(1, 0), x -> x.odds(1, 0));
        Everything.stays("below the line", Everything.inn().odds(0, 1), x -> x.odds(0, 1));
        Everything.stays("guest 3", InnPurposes.NO, x -> x.odds(3, 0));
        Everything.stays("part 2", InnPurposes.NO, x -> x.odds(0, 2));
    }
}
