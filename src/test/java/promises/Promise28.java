/** Promise 28: act. */
final class Promise28 {
    private static final int MIN = Integer.MIN_VALUE;
    private static final int MAX = Integer.MAX_VALUE;

    private Promise28() {
    }

    /** Guests 0 to 5 of kinds 1 to 6, v 7, so that each kind's i is one less. */
    private static InnPurposes sixUnderGuest() {
        return Inns.ofSixKinds(1, 7, 0);
    }

    @Says("ACTS of a GUEST with x (wrapping): 0 sleeps, 1 wakes, 2 tells; i its number.")
    static void actsAreOneOfThree() {
        InnPurposes x = Inns.ofSixKinds(0, 7, 0);
        Due.is("sleeps", x.act(0, 0, 10), 10);
        Due.is("wakes", x.act(0, 1, 10), 3);
        Due.is("tells", x.act(0, 2, 10), 6);
        x = new InnPurposes();
        for (int g = 0; g < 6; g++) {
            x.guest(0, g, 0);
        }
        Due.is("guest 5 sleeps", x.act(5, 0, 10), 15);
        Due.is("guest 5 wakes, v 5", x.act(5, 1, 10), 10);
        Due.is("guest 4 tells, v 4", x.act(4, 2, 10), 20);
    }

    @Says({"BODIES: GUEST: 10 sleeps: x + i. 11 wakes: sleeps(x) - v. 12 tells: wakes(x) * 2. LOVER: 20 wakes: super.wakes(x) ^ 6.",
        "An ACT (0 sleeps, 1 wakes, 2 tells) of a GUEST with x."})
    static void aLoverWakesOtherwise() {
        InnPurposes x = sixUnderGuest();
        Due.is("sleeps", x.act(0, 0, 10), 10);
        Due.is("wakes", x.act(0, 1, 10), 3 ^ 6);
        Due.is("tells", x.act(0, 2, 10), (3 ^ 6) * 2);
    }

    @Says("GENERAL: 30 sleeps: super.sleeps(x * 3).")
    static void aGeneralSleepsOtherwise() {
        InnPurposes x = sixUnderGuest();
        Due.is("sleeps", x.act(1, 0, 10), 31);
        Due.is("wakes", x.act(1, 1, 10), 24);
        Due.is("tells", x.act(1, 2, 10), 48);
    }

    @Says("THIEF: 40 tells: super.tells(x) + wakes(1).")
    static void aThiefTellsOtherwise() {
        InnPurposes x = sixUnderGuest();
        Due.is("sleeps", x.act(2, 0, 10), 12);
        Due.is("wakes", x.act(2, 1, 10), 5);
        Due.is("tells", x.act(2, 2, 10), 10 + (1 + 2 - 7));
    }

    @Says("MAID: 50 sleeps: -super.sleeps(x). 51 wakes: super.wakes(x + 1).")
    static void aMaidSleepsAndWakesOtherwise() {
        InnPurposes x = sixUnderGuest();
        Due.is("sleeps", x.act(3, 0, 10), -13);
        Due.is("wakes", x.act(3, 1, 10), (-14 - 7) ^ 6);
        Due.is("tells", x.act(3, 2, 10), ((-14 - 7) ^ 6) * 2);
    }

    @Says("CHILD: 60 tells: super.tells(x - i).")
    static void aChildTellsOtherwise() {
        InnPurposes x = sixUnderGuest();
        Due.is("sleeps", x.act(4, 0, 10), 34);
        Due.is("wakes", x.act(4, 1, 10), 27);
        Due.is("tells", x.act(4, 2, 10), (18 + 4 - 7) * 2);
    }

    @Says("TOLD: 70 wakes: super.wakes(x) + super.sleeps(2). 71 sleeps: super.sleeps(x) ^ v.")
    static void aToldOneWakesAndSleepsOtherwise() {
        InnPurposes x = sixUnderGuest();
        int wakes = (15 ^ 7) - 7 + 7;
        Due.is("sleeps", x.act(5, 0, 10), 15 ^ 7);
        Due.is("wakes", x.act(5, 1, 10), wakes);
        Due.is("tells", x.act(5, 2, 10), wakes * 2 + (6 ^ 7) - 7 + 7);
    }

    @Says({"sleeps(..) and so on: the body of its KIND, or, if that has none, of the next KIND above that has one;",
        "super.sleeps(..): so from the KIND above the body's on; all that stands in a body is done from the left on."})
    static void bodiesAreThoseOfTheKindOrAbove() {
        InnPurposes x = sixUnderGuest();
        int[][] due = {{10}, {20, 11, 10}, {12, 20, 11, 10}, {30, 10}, {11, 30, 10}, {12, 11, 30, 10}, {10}, {11, 10},
            {40, 12, 11, 10, 11, 10}, {50, 10}, {51, 20, 11, 50, 10}, {12, 51, 20, 11, 50, 10}, {30, 10}, {11, 30, 10},
            {60, 12, 11, 30, 10}, {71, 10}, {70, 11, 71, 10, 10}, {40, 12, 70, 11, 71, 10, 10, 70, 11, 71, 10, 10}};
        for (int i = 0; i < due.length; i++) {
            x.act(i / 3, i % 3, 4);
            Due.is("how many ran", x.count(6), due[i].length);
            for (int k = 0; k < due[i].length; k++) {
                Due.is("body " + k + " of act " + i % 3 + " of guest " + i / 3, x.trace(k), due[i][k]);
            }
        }
    }

    @Says("with x (wrapping)")
    static void sumsAndProductsWrap() {
        InnPurposes x = new InnPurposes();
        int[] kinds = {0, 1, 2, 4, 5, 6};
        for (int kind : kinds) {
            x.guest(kind, 9, 0);
        }
        Due.is("a guest wakes, below the least", x.act(0, 1, MIN), MAX - 8);
        Due.is("a guest tells, twice the greatest", x.act(0, 2, MAX), (MAX - 9) * 2);
        Due.is("a lover sleeps, above the greatest", x.act(1, 0, MAX), MIN);
        Due.is("a general sleeps, three times the greatest", x.act(2, 0, MAX), MAX - 2 + 2);
        Due.is("a general sleeps, three times the least", x.act(2, 0, MIN), MIN + 2);
        Due.is("a maid sleeps, less the least", x.act(3, 0, MIN - 3), MIN);
        Due.is("a maid wakes, one above the greatest", x.act(3, 1, MAX), (-(MIN + 3) - 9) ^ 6);
        Due.is("a child tells, below the least", x.act(4, 2, MIN), ((MIN - 4) * 3 + 4 - 9) * 2);
        Due.is("a told one wakes, above the greatest", x.act(5, 1, MAX), ((MAX + 5) ^ 9) - 9 + 7);
    }

    @Says("0, and no TRACE then: no such GUEST, act")
    static void noSuchGuestOrActLeavesNoTrace() {
        int[][] none = {{-1, 0}, {1, 0}, {6, 0}, {MIN, 0}, {MAX, 0}, {0, -1}, {0, 3}, {0, MIN}, {0, MAX}, {1, 3}};
        for (int[] call : none) {
            InnPurposes x = Inns.withOne(0, 1, 0);
            x.act(0, 2, 10);
            Due.is("act " + call[1] + " of guest " + call[0], x.act(call[0], call[1], 10), 0);
            Due.is("how many ran", x.count(6), 0);
            Due.is("the first body", x.trace(0), -1);
        }
        for (int kind = 0; kind < 7; kind++) {
            InnPurposes x = Inns.withOne(kind, 1, 0);
            Due.is("act 3 of kind " + kind, x.act(0, 3, 10), 0);
            Due.is("act -1 of kind " + kind, x.act(0, -1, 10), 0);
            Due.is("how many ran", x.count(6), 0);
        }
        InnPurposes y = Inns.withOne(0, 1, 0);
        Due.is("act 0", y.act(0, 0, 10), 10);
        Due.is("act 2", y.act(0, 2, 10), 18);
        Due.is("how many ran", y.count(6), 3);
    }

    @Says("An ACT (0 sleeps, 1 wakes, 2 tells) of a GUEST")
    static void anActChangesTheTraceAlone() {
        Everything.stays("the same act again", Everything.inn().act(0, 2, 5), x -> x.act(0, 2, 5));
        Everything.stays("another act, then the first again", 0, x -> {
            x.act(1, 1, 9);
            x.act(0, 2, 5);
            return 0;
        });
    }
}
