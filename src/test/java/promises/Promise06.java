/** Promise 6: stay. */
final class Promise06 {
    private Promise06() {
    }

    @Says("A GUEST is IN, or not: whether it was")
    static void itTellsWhetherTheGuestWasIn() {
        InnPurposes x = Inns.ofSixKinds(0, 0, 0);
        for (int g = 0; g < 6; g += 5) {
            Due.is("was in, stays in", x.stay(g, true), 1);
            Due.is("was in, goes", x.stay(g, false), 1);
            Due.is("was not in, stays out", x.stay(g, false), 0);
            Due.is("is not in", x.of(g, 4), 0);
            Due.is("was not in, comes", x.stay(g, true), 0);
            Due.is("is in", x.of(g, 4), 1);
        }
        x.stay(5, false);
        Due.is("the others stay in", x.told(4), 31);
    }

    @Says("NONE")
    static void theGuestMustBeThere() {
        InnPurposes x = Inns.withOne(0, 0, 0);
        int[] none = {-1, 1, 6, Integer.MIN_VALUE, Integer.MAX_VALUE};
        for (int g : none) {
            Due.is("guest " + g, x.stay(g, false), -1);
        }
        Due.is("no guest at all", new InnPurposes().stay(0, true), -1);
    }

    @Says("What is answered so changes nothing")
    static void aRefusedStayChangesNothing() {
        Everything.stays("guest 3", -1, x -> x.stay(3, false));
        Everything.stays("guest -1", -1, x -> x.stay(-1, false));
    }
}
