/** Promise 1: A new object. */
final class Promise01 {
    private Promise01() {
    }

    @Says("No GUESTS, no HOUSE")
    static void noGuestAndNoHouseIsThere() {
        InnPurposes x = new InnPurposes();
        Due.is("guests", x.count(0), 0);
        Due.is("houses", x.count(1), 0);
        Due.is("of the first guest", x.of(0, 0), -10001);
        Due.is("all mean", x.told(2), 0);
        Due.is("ring", x.told(3), 0);
        Due.is("who is in", x.told(4), 0);
    }

    @Says("No GUESTS, no HOUSE")
    static void nothingElseIsThere() {
        InnPurposes x = new InnPurposes();
        for (int what = 2; what < 7; what++) {
            Due.is("count " + what, x.count(what), 0);
        }
        Due.is("no image", x.undo(), -3);
        Due.is("no trace", x.trace(0), -1);
        Due.is("an empty plan", x.ends(0), 0);
        Due.is("an empty cellar", x.ends(1), 0);
        Due.is("an empty book", x.looked(), -5);
    }

    @Says({"NIGHT: 0 at first", "CELLAR: how often each PURPOSE lies there (0 .. 99; 0 at first)"})
    static void nightAndCellarBeginAt0() {
        InnPurposes x = new InnPurposes();
        Due.is("night", x.told(0), 0);
        for (int p = 0; p < 12; p++) {
            Due.is("purpose " + p + " in the cellar", x.told(10 + p), 0);
        }
    }

    @Says("without one there are no CLAUSES")
    static void withoutAHouseNothingSways() {
        InnPurposes x = Inns.withOne(0, 5, 4095);
        for (int p = 0; p < 12; p++) {
            Due.is("tempts of " + p, x.of(0, 10 + p), 5 + 2 * (p % 10));
        }
        Due.is("keep", x.told(1), 3);
    }

    @Says("Answers: NONE (-1) no such number; BAD (-2) a number is not as told; STATE (-3) as told; FULL (-4)")
    static void theAnswersAreMinus1ToMinus4() {
        Due.is("NONE", InnPurposes.NONE, -1);
        Due.is("BAD", InnPurposes.BAD, -2);
        Due.is("STATE", InnPurposes.STATE, -3);
        Due.is("FULL", InnPurposes.FULL, -4);
    }

    @Says("The constants: `NO = Long.MIN_VALUE`: There is no such number.")
    static void noIsTheLeastLong() {
        Due.is("NO", InnPurposes.NO, Long.MIN_VALUE);
    }

    @Says("An object is used for at most 512 calls after it has been made; what later calls answer is free.")
    static void the512thCallIsAnsweredAsTheFirst() {
        InnPurposes acts = Inns.withOne(6, 0, 0);
        InnPurposes images = Inns.withOne(6, 0, 0);
        InnPurposes faults = new InnPurposes();
        InnPurposes decoys = Inns.withOne(0, 0, 1);
        InnPurposes rows = Inns.withOne(0, 0, 1);
        for (int i = 0; i < 255; i++) {
            acts.act(0, 2, i);
            acts.trace(11);
            images.image();
            images.undo();
            faults.feed('k');
            faults.house();
            decoys.decoys(0, 0, 6);
            decoys.meant(0, 0);
            rows.see(0, 0, 0, true);
            rows.see(-1, 0, 0, true);
        }
        Due.is("the 512th of acts", acts.count(6), 12);
        Due.is("the 512th of images", images.undo(), 1);
        Due.is("the 511th of faults", faults.feed('k'), 1);
        Due.is("the 512th of faults", faults.house(), -11);
        Due.is("the 512th of decoys", decoys.decoys(0, 0, 6), 126);
        Due.is("the 512th of rows", rows.see(0, 0, 0, true), 1);
    }

    @Says("No GUESTS, no HOUSE")
    static void aNewObjectHasNothingOfAnOlderOne() {
        InnPurposes older = Everything.inn();
        InnPurposes x = new InnPurposes();
        for (int what = 0; what < 7; what++) {
            Due.is("count " + what, x.count(what), 0);
        }
        Due.is("night", x.told(0), 0);
        Due.is("weight of 2", x.told(32), 2);
        Due.is("first tape", x.read(0, 0), InnPurposes.NO);
        x.guest(1, 0, 0);
        x.weight(11, 0);
        Due.is("the older one's weight", older.told(41), 6);
        Due.is("the older one's first guest", older.of(0, 0), 6);
    }
}
