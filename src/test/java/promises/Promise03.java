/** Promise 3: of. */
final class Promise03 {
    private Promise03() {
    }

    private static int tempts(InnPurposes x, int guest, int purpose) {
        return x.of(guest, 10 + purpose);
    }

    /** One guest, and a house by which each purpose's SUM is this. */
    private static InnPurposes withSum(int kind, int v, int sum) {
        InnPurposes x = Inns.withOne(kind, v, 4095);
        for (int p = 0; p < 12; p++) {
            x.weight(p, 0);
        }
        Inns.build(x, (sum < 5 ? "leave " + (5 - sum) : "fancy " + (sum - 5)) + " x<12");
        return x;
    }

    @Says("Of a GUEST what 0 KIND, 1 v, 2 MEANS (bits), 3 LOST (bits), 4 whether it is IN,")
    static void aGuestIsAsItCameAndAsItWasSet() {
        InnPurposes x = Inns.withOne(5, 7, 4094);
        x.set(0, 1, 2049);
        int[] due = {5, 7, 4094, 2049, 1};
        for (int what = 0; what < 5; what++) {
            Due.is("of what " + what, x.of(0, what), due[what]);
        }
        x.stay(0, false);
        Due.is("not in", x.of(0, 4), 0);
    }

    @Says({"10 and x TEMPTS of PURPOSE x.", "-10001: NONE"})
    static void whatIs0To7And10To21() {
        InnPurposes x = Inns.withOne(0, 0, 0);
        int[] none = {-1, 8, 9, 22, 23, Integer.MIN_VALUE, Integer.MAX_VALUE};
        for (int what : none) {
            Due.is("of what " + what, x.of(0, what), -10001);
        }
        Due.is("what 0", x.of(0, 0), 0);
        Due.is("what 7", x.of(0, 7), 0);
        Due.is("what 10", x.of(0, 10), 5);
        Due.is("what 21", x.of(0, 21), 7);
    }

    @Says({"-10001: NONE", "Where it may be below 0, -10001 stands for NONE"})
    static void noSuchGuestIsMinus10001() {
        InnPurposes x = Inns.withOne(0, 0, 0);
        int[] none = {-1, 1, 5, 6, Integer.MIN_VALUE, Integer.MAX_VALUE};
        for (int g : none) {
            Due.is("of guest " + g, x.of(g, 0), -10001);
            Due.is("of guest " + g + " and no such what", x.of(g, 22), -10001);
        }
        InnPurposes y = Inns.ofSixKinds(0, 0, 0);
        Due.is("of guest 5", y.of(5, 0), 5);
        Due.is("of guest 6", y.of(6, 0), -10001);
    }

    @Says("what is asked changes nothing")
    static void askingChangesNothing() {
        for (int what = 0; what < 22; what += what == 7 ? 3 : 1) {
            int asked = what;
            Everything.stays("of what " + what, Everything.inn().of(1, what), x -> x.of(1, asked));
        }
        Everything.stays("of what 22", -10001, x -> x.of(1, 22));
        Everything.stays("of guest 3", -10001, x -> x.of(3, 0));
    }

    @Says("SUM of a GUEST and a PURPOSE: 5 and twice WEIGHT,")
    static void theSumIs5AndTwiceTheWeight() {
        InnPurposes x = Inns.withOne(0, 9, 0);
        for (int n = 0; n < 10; n++) {
            x.weight(11, n);
            Due.is("weight " + n, tempts(x, 0, 11), 5 + 2 * n);
        }
    }

    @Says("and the n of all fancy whose E holds, less those of all leave, together (may be below 0)")
    static void allClausesThatHoldCount() {
        InnPurposes x = Inns.withOne(0, 0, 1);
        Inns.build(x, "fancy 9 x=0;leave 3 x=0;fancy 20 x=1;fancy 1 x<2;leave 40 x>0;keep 7");
        Due.is("9, less 3, and 1", tempts(x, 0, 0), 5 + 9 - 3 + 1);
        Due.is("20 and 1, less 40", tempts(x, 0, 1), 7 + 20 + 1 - 40);
        Due.is("less 40", tempts(x, 0, 2), 9 - 40);
    }

    @Says("together (may be below 0)")
    static void theSumMayBe0OrBelow() {
        int[] sums = {1, 0, -1, -94};
        for (int sum : sums) {
            Due.is("sum", tempts(withSum(0, 0, sum), 0, 0), sum);
        }
        InnPurposes x = Inns.withOne(0, 0, 0);
        Inns.build(x, "leave 99 x<1;leave 99 x<1;leave 99 x<1;leave 99 x<1;leave 99 x<1;leave 99 x<1;leave 99 x<1");
        Due.is("seven times 99 below 5", tempts(x, 0, 0), 5 - 7 * 99);
    }

    @Says("TEMPTS of a GUEST and a PURPOSE (may be below 0): GUEST: SUM.")
    static void aGuestIsTemptedByTheSumAlone() {
        Due.is("v 9, a purpose with an even number", tempts(withSum(0, 9, 8), 0, 4), 8);
        Due.is("below 0", tempts(withSum(0, 9, -3), 0, 4), -3);
    }

    @Says("LOVER: SUM and v, if the number of the PURPOSE is even.")
    static void aLoverIsTemptedByVMoreOfEvenNumbers() {
        InnPurposes x = withSum(1, 9, -4);
        for (int p = 0; p < 12; p++) {
            Due.is("of " + p, tempts(x, 0, p), p % 2 == 0 ? 5 : -4);
        }
        Due.is("v 0", tempts(withSum(1, 0, 6), 0, 0), 6);
    }

    @Says("GENERAL: the half (cut toward 0) of SUM.")
    static void aGeneralIsTemptedByTheHalfCutToward0() {
        int[] sums = {6, 5, 2, 1, 0, -1, -2, -3, -4};
        int[] due = {3, 2, 1, 0, 0, 0, -1, -1, -2};
        for (int i = 0; i < sums.length; i++) {
            Due.is("half of " + sums[i], tempts(withSum(2, 9, sums[i]), 0, 0), due[i]);
        }
    }

    @Says("THIEF: SUM; 0, if v is more than WEIGHT.")
    static void aThiefIsTemptedBy0IfVIsMoreThanTheWeight() {
        InnPurposes x = Inns.withOne(3, 4, 0);
        Due.is("weight 3, v 4", tempts(x, 0, 3), 0);
        Due.is("weight 4, v 4", tempts(x, 0, 4), 13);
        Due.is("weight 5, v 4", tempts(x, 0, 5), 15);
        Inns.build(x, "leave 50 x<12");
        Due.is("a sum below 0, v more", tempts(x, 0, 3), 0);
        Due.is("a sum below 0, v as much", tempts(x, 0, 4), -37);
    }

    @Says("MAID: as LOVER, less 10, if it has LOST that.")
    static void aMaidIsTemptedBy10LessOfWhatSheLost() {
        InnPurposes x = withSum(4, 3, 6);
        x.set(0, 1, 3);
        Due.is("an even one that she lost", tempts(x, 0, 0), -1);
        Due.is("an odd one that she lost", tempts(x, 0, 1), -4);
        Due.is("an even one that she did not lose", tempts(x, 0, 2), 9);
        Due.is("an odd one that she did not lose", tempts(x, 0, 3), 6);
        x.set(0, 1, 2048);
        Due.is("the last one that she lost", tempts(x, 0, 11), -4);
        Due.is("the one ahead of it", tempts(x, 0, 10), 9);
    }

    @Says("CHILD: as GENERAL, and NIGHT modulo 5.")
    static void aChildIsTemptedByNightModulo5More() {
        InnPurposes x = withSum(5, 0, -5);
        int[] due = {-2, -1, 0, 1, 2, -2, -1, 0, 1, 2, -2, -1};
        for (int night = 0; night < 12; night++) {
            Due.is("by night " + night, tempts(x, 0, 0), due[night]);
            x.pass(1);
        }
    }

    @Says("TOLD: as THIEF, and its ROW (four numbers 0 .. 9; 0 at first) at PURPOSE modulo 4 more.")
    static void aToldOneIsTemptedByItsRowMore() {
        InnPurposes x = Inns.withOne(6, 4, 0);
        Due.is("a row of 0, v more", tempts(x, 0, 3), 0);
        Due.is("a row of 0, v as much", tempts(x, 0, 4), 13);
        for (int part = 0; part < 4; part++) {
            x.row(0, part, 9 - part);
        }
        int[] due = {9, 8, 7, 6, 13 + 9, 15 + 8, 17 + 7, 19 + 6, 21 + 9, 23 + 8, 7, 6};
        for (int p = 0; p < 12; p++) {
            Due.is("of " + p, tempts(x, 0, p), due[p]);
        }
    }

    @Says("PREY of a GUEST: of what it MEANS the one that TEMPTS most, if above 0")
    static void preyMustTemptAbove0() {
        Due.is("tempts 1", withSum(0, 0, 1).of(0, 5), 0);
        Due.is("tempts 0", withSum(0, 0, 0).of(0, 5), -5);
        Due.is("tempts -1", withSum(0, 0, -1).of(0, 5), -5);
        InnPurposes x = Inns.withOne(0, 0, 4095);
        Due.is("the most of all", x.of(0, 5), 9);
        x.set(0, 0, 4095 - 512);
        Due.is("the most of what it means", x.of(0, 5), 8);
    }

    @Says("(of several the first; none, if there is none, or it is not IN)")
    static void ofSeveralTheFirstIsPrey() {
        InnPurposes x = withSum(0, 0, 5);
        Due.is("of all twelve", x.of(0, 5), 0);
        x.set(0, 0, 4094);
        Due.is("of eleven", x.of(0, 5), 1);
        x.set(0, 0, 3072);
        Due.is("of the last two", x.of(0, 5), 10);
        x.weight(11, 1);
        Due.is("the last tempts more", x.of(0, 5), 11);
    }

    @Says({"5 PREY (-5: none)", "none, if there is none, or it is not IN"})
    static void thereMayBeNoPrey() {
        InnPurposes x = Inns.withOne(0, 0, 0);
        Due.is("it means nothing", x.of(0, 5), -5);
        x.set(0, 0, 1);
        Due.is("it means one", x.of(0, 5), 0);
        x.stay(0, false);
        Due.is("it is not in", x.of(0, 5), -5);
        x.stay(0, true);
        Due.is("it is in", x.of(0, 5), 0);
    }

    @Says("EMPTY of a GUEST: the fewest NIGHTS (0 .. 60) behind which it MEANS nothing")
    static void emptyMayBe0And60() {
        InnPurposes x = Inns.withOne(0, 0, 0);
        Due.is("means nothing now", x.of(0, 6), 0);
        x.stay(0, false);
        Due.is("means nothing now, not in", x.of(0, 6), 0);
        Due.is("one purpose", Inns.withOne(0, 0, 1).of(0, 6), 1);
        Due.is("twelve purposes", Inns.withOne(0, 0, 4095).of(0, 6), 12);
        Due.is("behind 60", Inns.oneNightInTen(63).of(0, 6), 60);
    }

    @Says({"behind which it MEANS nothing (-5: not by then)", "6 EMPTY (-5)"})
    static void emptyIsNot61() {
        InnPurposes x = Inns.withHouse("leave 99 n>0");
        x.guest(0, 0, 127);
        Due.is("behind 61", x.of(0, 6), -5);
        x.set(0, 0, 63);
        Due.is("behind 51", x.of(0, 6), 51);
        x.stay(0, false);
        Due.is("never", x.of(0, 6), -5);
    }

    @Says({"BACK of a GUEST: all PURPOSES it LOST and does not MEAN", "7 BACK (bits)"})
    static void onlyWhatItLostAndDoesNotMeanCanComeBack() {
        InnPurposes x = Inns.withOne(0, 0, 0);
        x.guest(0, 0, 4095);
        Due.is("lost nothing", x.of(0, 7), 0);
        x.set(0, 1, 4095);
        Due.is("lost all", x.of(0, 7), 4095);
        x.set(0, 0, 2049);
        Due.is("means two of it", x.of(0, 7), 4094 - 2048);
    }

    @Says("that lie in CELLAR or that another one can give it (bits).")
    static void backIsFromTheCellarOrFromAnotherOne() {
        InnPurposes x = Inns.withHouse("keep 0");
        x.guest(0, 0, 1);
        x.guest(0, 0, 2048);
        x.guest(0, 0, 0);
        x.set(2, 1, 4095);
        Due.is("two others can give", x.of(2, 7), 2049);
        x.stay(0, false);
        Due.is("one that is not in can", x.of(2, 7), 2049);
        x.pass(1);
        Due.is("what lies there", x.of(2, 7), 2049);
        x.redeem(1, 11);
        x.stay(1, false);
        x.set(1, 0, 0);
        Due.is("what lies there no more", x.of(2, 7), 1);
    }

    @Says("that lie in CELLAR")
    static void eachPurposeInTheCellarCanComeBack() {
        InnPurposes x = Inns.withHouse("keep 0");
        x.guest(0, 0, 0);
        x.set(0, 1, 4095);
        Due.is("nothing lies there", x.of(0, 7), 0);
        x.guest(0, 0, 4095);
        x.pass(12);
        Due.is("all lie there", x.of(0, 7), 4095);
        for (int p = 0; p < 12; p++) {
            x.set(1, 0, 0);
            x.set(1, 1, 1 << p);
            x.redeem(1, p);
            x.set(1, 0, 0);
            Due.is("but those up to " + p, x.of(0, 7), 4095 & -2 << p);
        }
    }

    @Says("another one can give it")
    static void nobodyGivesToItself() {
        InnPurposes x = Inns.withOne(0, 0, 5);
        x.set(0, 1, 5);
        Due.is("alone", x.of(0, 7), 0);
        x.guest(0, 0, 4);
        Due.is("another one means what it means", x.of(0, 7), 0);
        x.set(0, 0, 1);
        Due.is("another one means what it does not", x.of(0, 7), 4);
    }
}
