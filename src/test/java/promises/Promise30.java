/** Promise 30: taken. */
final class Promise30 {
    private Promise30() {
    }

    @Says({"are of KINDS: 0 GUEST; 1 LOVER, 2 GENERAL, 3 THIEF under GUEST; 4 MAID under LOVER; 5 CHILD under GENERAL; 6 TOLD under THIEF;",
        "A GUEST taken for one of KIND k (0 .. 6), or one under that: its KIND."})
    static void aGuestIsOfItsKindAndOfThoseAbove() {
        int[][] kinds = {{0}, {0, 1}, {0, 2}, {0, 3}, {0, 1, 4}, {0, 2, 5}, {0, 3, 6}};
        for (int kind = 0; kind < 7; kind++) {
            InnPurposes x = Inns.withOne(kind, 0, 0);
            for (int k = 0; k < 7; k++) {
                boolean is = false;
                for (int one : kinds[kind]) {
                    is |= one == k;
                }
                Due.is("kind " + kind + " for " + k, x.taken(0, k), is ? kind : -12);
            }
        }
    }

    @Says("BAD: k")
    static void kIs0To6() {
        InnPurposes x = Inns.withOne(6, 0, 0);
        Due.is("k -1", x.taken(0, -1), -2);
        Due.is("k 7", x.taken(0, 7), -2);
        Due.is("the least", x.taken(0, Integer.MIN_VALUE), -2);
        Due.is("the greatest", x.taken(0, Integer.MAX_VALUE), -2);
        Due.is("k 0", x.taken(0, 0), 6);
        Due.is("k 6", x.taken(0, 6), 6);
    }

    @Says("NOTHING: no such GUEST")
    static void theGuestMustBeThere() {
        InnPurposes x = Inns.withOne(0, 0, 0);
        Due.is("guest -1", x.taken(-1, 0), -11);
        Due.is("guest 1", x.taken(1, 0), -11);
        Due.is("guest 6", x.taken(6, 0), -11);
        Due.is("the least", x.taken(Integer.MIN_VALUE, 0), -11);
        Due.is("the greatest", x.taken(Integer.MAX_VALUE, 0), -11);
        Due.is("guest 5 of six", Inns.ofSixKinds(0, 0, 0).taken(5, 5), 5);
    }

    @Says({"no such GUEST; CAST", "CAST (-12): another sort or KIND"})
    static void anotherKindIsCast() {
        InnPurposes x = Inns.withOne(0, 0, 0);
        Due.is("a guest for a lover", x.taken(0, 1), -12);
        Due.is("a guest for a told one", x.taken(0, 6), -12);
        InnPurposes y = Inns.withOne(4, 0, 0);
        Due.is("a maid for a child", y.taken(0, 5), -12);
        Due.is("a maid for a thief", y.taken(0, 3), -12);
    }

    @Says("the first that a call's words name")
    static void badIsNamedAheadOfNothing() {
        InnPurposes x = new InnPurposes();
        Due.is("k and guest", x.taken(0, 7), -2);
        Due.is("k and guest", x.taken(-1, -1), -2);
    }

    @Says("what is asked changes nothing")
    static void askingChangesNothing() {
        Everything.stays("its kind", 6, x -> x.taken(0, 3));
        Everything.stays("another kind", -12, x -> x.taken(0, 1));
        Everything.stays("k 7", -2, x -> x.taken(0, 7));
        Everything.stays("guest 3", -11, x -> x.taken(3, 0));
    }
}
