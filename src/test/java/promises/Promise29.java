/** Promise 29: trace. */
final class Promise29 {
    private Promise29() {
    }

    @Says({"THE TRACE: the numbers of the bodies that ran in the latest act(), as they began;", "THE TRACE's i-th body."})
    static void bodiesAreNumberedAsTheyBegan() {
        InnPurposes x = Inns.withOne(3, 0, 0);
        Due.is("no act yet", x.trace(0), -1);
        x.act(0, 2, 0);
        int[] due = {40, 12, 11, 10, 11, 10, -1};
        for (int i = 0; i < due.length; i++) {
            Due.is("body " + i, x.trace(i), due[i]);
        }
        x.act(0, 0, 0);
        Due.is("the latest act alone", x.trace(0), 10);
        Due.is("nothing of the one ahead", x.trace(1), -1);
    }

    /** The longest act runs twelve bodies, so that none is ever beyond the twenty. */
    @Says("the first 20 are kept")
    static void allOfTheLongestActAreKept() {
        InnPurposes x = Inns.withOne(6, 0, 0);
        x.act(0, 2, 0);
        int[] due = {40, 12, 70, 11, 71, 10, 10, 70, 11, 71, 10, 10};
        for (int i = 0; i < due.length; i++) {
            Due.is("body " + i, x.trace(i), due[i]);
        }
        for (int i = due.length; i <= 21; i++) {
            Due.is("body " + i, x.trace(i), -1);
        }
    }

    @Says("NONE")
    static void farOffBodiesAreNone() {
        InnPurposes x = Inns.withOne(0, 0, 0);
        x.act(0, 2, 0);
        Due.is("body -1", x.trace(-1), -1);
        Due.is("body 2", x.trace(2), 10);
        Due.is("body 3", x.trace(3), -1);
        Due.is("the least", x.trace(Integer.MIN_VALUE), -1);
        Due.is("the greatest", x.trace(Integer.MAX_VALUE), -1);
    }

    @Says("what is asked changes nothing")
    static void askingChangesNothing() {
        Everything.stays("body 3", Everything.inn().trace(3), x -> x.trace(3));
        Everything.stays("body 12", -1, x -> x.trace(12));
        Everything.stays("body -1", -1, x -> x.trace(-1));
    }
}
