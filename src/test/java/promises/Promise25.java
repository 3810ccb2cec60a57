/** Promise 25: judge. */
final class Promise25 {
    private Promise25() {
    }

    /** A cellar in which purpose p lies p % 3 times, and tape 0, 60 bytes, which tells it from place 48 on. */
    private static InnPurposes told() {
        InnPurposes x = Inns.withHouse("keep 0");
        x.guest(0, 0, 0b110110110110);
        x.guest(0, 0, 0b100100100100);
        x.pass(12);
        x.tape(0, 0, 60);
        for (int p = 0; p < 12; p++) {
            x.item(0, 48 + p, p % 3);
        }
        return x;
    }

    @Says({"CELLAR told by a row of bytes, from a place on, PURPOSE by PURPOSE, is JUDGED: the first that is otherwise; -5: none;",
        "JUDGED from place i of a TAPE on."})
    static void theFirstThatIsOtherwiseIsTold() {
        for (int p = 0; p < 12; p++) {
            InnPurposes x = told();
            Due.is("all is so", x.judge(0, 48), -5);
            x.item(0, 48 + p, 99);
            x.item(0, 59, 98);
            Due.is("the first that is otherwise", x.judge(0, 48), p);
        }
    }

    @Says("100 and how many were looked at, if the row ends ahead of that")
    static void aRowMayEndTooEarly() {
        InnPurposes x = told();
        x.tape(1, 0, 11);
        x.shift(0, 48, 1, 0, 11);
        for (int i = 0; i <= 11; i++) {
            x.tape(2, 0, i);
            x.shift(1, 0, 2, 0, i);
            Due.is("a row of " + i, x.judge(2, 0), 100 + i);
        }
        x.item(2, 10, 0);
        Due.is("otherwise ahead of the end", x.judge(2, 0), 10);
    }

    @Says("if the row ends ahead of that")
    static void fromTheEndOnNothingIsLookedAt() {
        InnPurposes x = told();
        Due.is("from 49 on, the first is otherwise", x.judge(0, 49), 0);
        Due.is("from 57 on, three are looked at", x.judge(0, 57), 103);
        Due.is("from 59 on, the last one is otherwise", x.judge(0, 59), 0);
        Due.is("from 60 on, the end", x.judge(0, 60), 100);
        Due.is("from 61 on", x.judge(0, 61), 100);
        Due.is("from the greatest on", x.judge(0, Integer.MAX_VALUE), 100);
    }

    @Says("(or the place is below 0, or the TAPE holds nothing)")
    static void below0AndNothingAre100() {
        InnPurposes x = told();
        Due.is("place -1", x.judge(0, -1), 100);
        Due.is("the least place", x.judge(0, Integer.MIN_VALUE), 100);
        Due.is("a tape that holds nothing", x.judge(5, 0), 100);
        Due.is("a tape that holds nothing, below 0", x.judge(5, -1), 100);
        x.tape(0, -1, 0);
        Due.is("a tape that holds nothing again", x.judge(0, 48), 100);
    }

    @Says("CAST: it is no row of bytes")
    static void onlyARowOfBytesIsJudged() {
        InnPurposes x = new InnPurposes();
        for (int sort = 1; sort < 5; sort++) {
            x.tape(sort, sort, 12);
            Due.is("sort " + sort, x.judge(sort, 0), -12);
        }
        x.tape(0, 0, 12);
        Due.is("sort 0", x.judge(0, 0), -5);
    }

    @Says("NONE: tape")
    static void theTapeMustBeThere() {
        InnPurposes x = new InnPurposes();
        Due.is("tape -1", x.judge(-1, 0), -1);
        Due.is("tape 6", x.judge(6, 0), -1);
        Due.is("the least", x.judge(Integer.MIN_VALUE, 0), -1);
        Due.is("the greatest", x.judge(Integer.MAX_VALUE, 0), -1);
        Due.is("tape 5", x.judge(5, 0), 100);
        Due.is("tape 0", x.judge(0, 0), 100);
    }

    @Says("the first that a call's words name")
    static void castIsNamedAheadOfThePlace() {
        InnPurposes x = new InnPurposes();
        x.tape(0, 3, 12);
        Due.is("no bytes, below 0", x.judge(0, -1), -12);
        Due.is("no tape, below 0", x.judge(6, -1), -1);
    }

    @Says("CELLAR told by a row of bytes")
    static void bytesBelow0AreOtherwise() {
        InnPurposes x = new InnPurposes();
        x.tape(0, 0, 12);
        x.item(0, 3, 128);
        Due.is("128, which is -128", x.judge(0, 0), 3);
        x.item(0, 3, 256);
        Due.is("256, which is 0", x.judge(0, 0), -5);
    }

    @Says("what is asked changes nothing")
    static void askingChangesNothing() {
        Everything.stays("bytes", Everything.inn().judge(0, 0), x -> x.judge(0, 0));
        Everything.stays("no bytes", -12, x -> x.judge(2, 0));
        Everything.stays("tape 6", -1, x -> x.judge(6, 0));
    }
}
