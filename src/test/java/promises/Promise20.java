/** Promise 20: mean. */
final class Promise20 {
    private Promise20() {
    }

    private static void mean(InnPurposes x, int n, int above, int below) {
        Due.is("above the line behind " + n, x.mean(n, 0), above);
        Due.is("below the line behind " + n, x.mean(n, 1), below);
    }

    @Says("MEAN of n NIGHTS (0 .. 60)")
    static void nightsAre0To60() {
        InnPurposes x = Inns.oneNightInTen(63);
        mean(x, 0, 6, 1);
        mean(x, 59, 1, 1);
        mean(x, 60, 0, 1);
        Due.is("n -1", x.mean(-1, 0), InnPurposes.NO);
        Due.is("n 61", x.mean(61, 0), InnPurposes.NO);
        Due.is("the least", x.mean(Integer.MIN_VALUE, 1), InnPurposes.NO);
        Due.is("the greatest", x.mean(Integer.MAX_VALUE, 1), InnPurposes.NO);
    }

    @Says({"how many PURPOSES all MEAN behind n, together, by how many GUESTS there are: a fraction in lowest terms",
        "MEAN; part likewise."})
    static void theFractionIsInLowestTerms() {
        InnPurposes x = Inns.ofSixKinds(0, 0, 4095);
        mean(x, 0, 12, 1);
        x.set(5, 0, 0);
        mean(x, 0, 10, 1);
        x.set(4, 0, 0);
        x.set(3, 0, 1);
        mean(x, 0, 37, 6);
        x.set(3, 0, 15);
        mean(x, 0, 20, 3);
        x.set(2, 0, 0);
        x.set(1, 0, 0);
        x.set(0, 0, 0);
        mean(x, 0, 2, 3);
        x.stay(3, false);
        mean(x, 60, 2, 3);
        x.set(3, 0, 0);
        mean(x, 0, 0, 1);
    }

    @Says("(NO: there are none)")
    static void withoutGuestsThereIsNone() {
        InnPurposes x = new InnPurposes();
        Due.is("above the line", x.mean(0, 0), InnPurposes.NO);
        Due.is("below the line", x.mean(60, 1), InnPurposes.NO);
        x.guest(0, 0, 0);
        mean(x, 0, 0, 1);
    }

    @Says("MEAN; part likewise. NO")
    static void partIs0Or1() {
        InnPurposes x = Inns.withOne(0, 0, 1);
        Due.is("part -1", x.mean(0, -1), InnPurposes.NO);
        Due.is("part 2", x.mean(0, 2), InnPurposes.NO);
        mean(x, 0, 1, 1);
    }

    @Says("what is asked changes nothing")
    static void askingChangesNothing() {
        Everything.stays("above the line", Everything.inn().mean(3, 0), x -> x.mean(3, 0));
        Everything.stays("below the line", Everything.inn().mean(60, 1), x -> x.mean(60, 1));
        Everything.stays("n 61", InnPurposes.NO, x -> x.mean(61, 1));
        Everything.stays("part 2", InnPurposes.NO, x -> x.mean(1, 2));
    }

    @Says("goes on from how all is (NIGHTS beyond 9999, too)")
    static void nightsGoOnBeyond9999() {
        InnPurposes x = Inns.late(9999);
        x.guest(0, 0, 7);
        Inns.build(x, "leave 99 n=0");
        mean(x, 1, 2, 1);
        mean(x, 2, 2, 1);
        mean(x, 3, 1, 1);
    }
}
