/** Promise 5: weight. */
final class Promise05 {
    private Promise05() {
    }

    @Says("each with a WEIGHT (0 .. 9; its number modulo 10 at first)")
    static void aWeightIsTheNumberModulo10AtFirst() {
        InnPurposes x = new InnPurposes();
        int[] due = {0, 1, 2, 3, 4, 5, 6, 7, 8, 9, 0, 1};
        for (int p = 0; p < 12; p++) {
            Due.is("weight of " + p, x.told(30 + p), due[p]);
        }
    }

    @Says("WEIGHT of a PURPOSE becomes n (0 .. 9): what it was")
    static void aWeightBecomes0To9() {
        InnPurposes x = new InnPurposes();
        Due.is("n -1", x.weight(5, -1), -2);
        Due.is("n 10", x.weight(5, 10), -2);
        Due.is("n 9", x.weight(5, 9), 5);
        Due.is("it is 9", x.told(35), 9);
        Due.is("n 0", x.weight(5, 0), 9);
        Due.is("it is 0", x.told(35), 0);
        Due.is("the next one's stays", x.told(36), 6);
        Due.is("the one's ahead stays", x.told(34), 4);
    }

    @Says("BAD")
    static void farOffWeightsAreBad() {
        InnPurposes x = new InnPurposes();
        Due.is("the least", x.weight(0, Integer.MIN_VALUE), -2);
        Due.is("the greatest", x.weight(0, Integer.MAX_VALUE), -2);
    }

    @Says({"PURPOSES 0 .. 11", "NONE"})
    static void purposesAre0To11() {
        InnPurposes x = new InnPurposes();
        Due.is("purpose -1", x.weight(-1, 0), -1);
        Due.is("purpose 12", x.weight(12, 0), -1);
        Due.is("the least", x.weight(Integer.MIN_VALUE, 0), -1);
        Due.is("the greatest", x.weight(Integer.MAX_VALUE, 0), -1);
        Due.is("purpose 0", x.weight(0, 7), 0);
        Due.is("purpose 11", x.weight(11, 7), 1);
    }

    @Says("the first that a call's words name")
    static void noneIsNamedAheadOfBad() {
        Due.is("purpose and n", new InnPurposes().weight(12, 10), -1);
        Due.is("purpose and n", new InnPurposes().weight(-1, -1), -1);
    }

    @Says("What is answered so changes nothing")
    static void aRefusedWeightChangesNothing() {
        Everything.stays("purpose 12", -1, x -> x.weight(12, 5));
        Everything.stays("purpose -1", -1, x -> x.weight(-1, 5));
        Everything.stays("n 10", -2, x -> x.weight(4, 10));
        Everything.stays("n -1", -2, x -> x.weight(4, -1));
    }
}
