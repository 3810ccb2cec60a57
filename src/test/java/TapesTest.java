/** Promises 25 to 35: judging, the image, acts, tapes. */
public final class TapesTest {
    private static final int ALL = 4095;
    private static final int MIN = Integer.MIN_VALUE;
    private static final int MAX = Integer.MAX_VALUE;

    private TapesTest() {
    }

    private static void promise25() {
        InnPurposes x = Inns.withHouse("keep 0");
        x.guest(0, 0, 1 << 3 | 1 << 9);
        x.pass(2);
        Due.is("25: holds nothing", x.judge(0, 0), 100);
        Due.is("25: holds nothing, below 0", x.judge(0, -1), 100);
        x.tape(0, 0, 14);
        Due.is("25: 3 is otherwise", x.judge(0, 0), 3);
        x.item(0, 5, 1);
        Due.is("25: from 2 on 9 is otherwise", x.judge(0, 2), 9);
        x.item(0, 11, 1);
        Due.is("25: from 2 on all is so", x.judge(0, 2), -5);
        Due.is("25: from 3 on 2 is otherwise", x.judge(0, 3), 2);
        Due.is("25: from 13 on one is looked at", x.judge(0, 13), 101);
        Due.is("25: from 12 on two", x.judge(0, 12), 102);
        Due.is("25: from 14 on none", x.judge(0, 14), 100);
        Due.is("25: from 15 on none", x.judge(0, 15), 100);
        Due.is("25: from far on none", x.judge(0, MAX), 100);
        Due.is("25: below 0", x.judge(0, -1), 100);
        Due.is("25: far below 0", x.judge(0, MIN), 100);
        x.tape(1, 0, 11);
        x.item(1, 3, 1);
        x.item(1, 9, 1);
        Due.is("25: eleven are looked at", x.judge(1, 0), 111);
        x.item(1, 0, 255);
        Due.is("25: a byte below 0", x.judge(1, 0), 0);
        x.item(1, 0, 256);
        Due.is("25: a byte of its lowest bits", x.judge(1, 0), 111);
        x.tape(1, 0, 0);
        Due.is("25: an empty row", x.judge(1, 0), 100);
        for (int sort = 1; sort < 5; sort++) {
            x.tape(2, sort, 12);
            Due.is("25: of sort " + sort, x.judge(2, 0), -12);
        }
        Due.is("25: of another sort, below 0", x.judge(2, -1), -12);
        Due.is("25: tape 6", x.judge(6, 0), -1);
        Due.is("25: tape -1", x.judge(-1, 0), -1);
    }

    private static InnPurposes full() {
        InnPurposes x = Inns.withHouse("fancy 1 x=0;keep 7");
        x.guest(6, 4, ALL);
        x.guest(4, 2, 63);
        x.row(0, 1, 5);
        x.weight(2, 8);
        x.stay(1, false);
        x.pass(2);
        x.set(1, 1, 40);
        x.see(0, 1, 3, false);
        x.plan(0, 0);
        x.plan(3, 0);
        x.book(9, 1);
        return x;
    }

    private static long[] all(InnPurposes x) {
        long[] all = new long[80];
        int at = 0;
        for (int g = 0; g < 2; g++) {
            for (int what = 0; what < 22; what++) {
                all[at++] = x.of(g, what);
            }
        }
        for (int p = 0; p < 12; p++) {
            all[at++] = x.told(10 + p);
            all[at++] = x.told(30 + p);
        }
        all[at++] = x.told(0);
        all[at++] = x.told(1);
        all[at++] = x.told(4);
        all[at++] = x.meant(0, 0);
        all[at++] = x.ends(0);
        all[at++] = x.looked();
        all[at++] = x.count(0);
        all[at++] = x.count(2);
        all[at++] = x.count(3);
        all[at++] = x.count(4);
        return all;
    }

    private static void spoil(InnPurposes x) {
        Inns.build(x, "leave 9 x=1");
        x.pass(5);
        x.guest(0, 0, 5);
        x.set(0, 0, 1);
        x.set(1, 1, 1);
        x.stay(1, true);
        x.row(0, 1, 9);
        x.weight(2, 0);
        x.redeem(0, 9);
        x.see(-1, 0, 0, true);
        x.see(2, 0, 0, true);
        x.plan(-1, 0);
        x.plan(1, 2);
        x.book(-1, 0);
        x.book(1, 50);
    }

    private static void promises26And27() {
        InnPurposes x = new InnPurposes();
        Due.is("27: there is none", x.undo(), -3);
        Due.is("26: of nobody", x.image(), 0);
        x.guest(0, 0, 1);
        Due.is("27: nobody again", x.undo(), 0);
        Due.is("27: no guest is there", x.of(0, 0), -10001);
        x = full();
        long[] before = all(x);
        Due.is("26: of two", x.image(), 2);
        for (int time = 0; time < 2; time++) {
            spoil(x);
            Due.is("27: three before", x.count(0), 3);
            Due.is("27: two", x.undo(), 2);
            long[] behind = all(x);
            for (int i = 0; i < before.length; i++) {
                Due.is("27: as it was, " + i, behind[i], before[i]);
            }
        }
        spoil(x);
        Due.is("26: a newer image", x.image(), 3);
        x.pass(1);
        Due.is("27: as the newer one", x.undo(), 3);
        Due.is("27: its night", x.told(0), 7);
    }

    private static void promise27Others() {
        InnPurposes x = new InnPurposes();
        x.image();
        Inns.build(x, "keep 1");
        Due.is("27: a house", x.told(1), 1);
        Inns.feed(x, "abc");
        x.tape(0, 0, 3);
        x.item(0, 1, 9);
        x.guest(0, 0, 0);
        x.act(0, 2, 3);
        x.undo();
        Due.is("27: no house holds", x.told(1), 3);
        Due.is("27: but there is one", x.count(1), 1);
        Due.is("27: THE TEXT stays", x.count(5), 3);
        Due.is("27: a tape stays", x.read(0, 1), 9);
        Due.is("27: THE TRACE stays", x.trace(0), 12);
        Due.is("27: all of it", x.count(6), 3);
        x.house();
        Due.is("27: the next house", Inns.build(x, "keep 2"), 1);
    }

    private static void act(InnPurposes x, int guest, int act, int due, int... trace) {
        String name = "act " + act + " of guest " + guest;
        Due.is("28: " + name, x.act(guest, act, 10), due);
        Due.is("29: how many ran in " + name, x.count(6), trace.length);
        for (int i = 0; i < trace.length; i++) {
            Due.is("29: body " + i + " of " + name, x.trace(i), trace[i]);
        }
        Due.is("29: none behind those of " + name, x.trace(trace.length), -1);
    }

    private static void promises28And29() {
        InnPurposes x = Inns.ofSixKinds(0, 7, 0);
        act(x, 0, 0, 10, 10);
        act(x, 0, 1, 3, 11, 10);
        act(x, 0, 2, 6, 12, 11, 10);
        act(x, 1, 0, 11, 10);
        act(x, 1, 1, 4 ^ 6, 20, 11, 10);
        act(x, 1, 2, (4 ^ 6) * 2, 12, 20, 11, 10);
        act(x, 2, 0, 32, 30, 10);
        act(x, 2, 1, 25, 11, 30, 10);
        act(x, 2, 2, 50, 12, 11, 30, 10);
        act(x, 3, 0, 13, 10);
        act(x, 3, 1, 6, 11, 10);
        act(x, 3, 2, 12 - 3, 40, 12, 11, 10, 11, 10);
        act(x, 4, 0, -14, 50, 10);
        act(x, 4, 1, (-15 - 7) ^ 6, 51, 20, 11, 50, 10);
        act(x, 4, 2, ((-15 - 7) ^ 6) * 2, 12, 51, 20, 11, 50, 10);
        act(x, 5, 0, 35, 30, 10);
        act(x, 5, 1, 28, 11, 30, 10);
        act(x, 5, 2, 2 * (15 + 5 - 7), 60, 12, 11, 30, 10);
        promise28Told();
        Due.is("28: no such guest", x.act(6, 0, 10), 0);
        Due.is("29: no trace then", x.count(6), 0);
        Due.is("29: no first body then", x.trace(0), -1);
        x.act(0, 0, 1);
        Due.is("28: act 3", x.act(0, 3, 10), 0);
        Due.is("29: no trace then", x.trace(0), -1);
        x.act(0, 0, 1);
        Due.is("28: act -1", x.act(0, -1, 10), 0);
        Due.is("28: guest -1", x.act(-1, 0, 10), 0);
        Due.is("29: trace -1", x.trace(-1), -1);
        Due.is("29: trace far on", x.trace(MAX), -1);
        Due.is("28: wraps", x.act(2, 0, MAX), MAX * 3 + 2);
        Due.is("28: wraps downward", x.act(0, 1, MIN), MAX - 6);
    }

    private static void promise28Told() {
        InnPurposes x = Inns.ofSixKinds(1, 7, 0);
        int sleeps = 15 ^ 7;
        int wakes = sleeps - 7 + 7;
        int one = (6 ^ 7) - 7 + 7;
        act(x, 5, 0, sleeps, 71, 10);
        act(x, 5, 1, wakes, 70, 11, 71, 10, 10);
        act(x, 5, 2, wakes * 2 + one, 40, 12, 70, 11, 71, 10, 10, 70, 11, 71, 10, 10);
    }

    private static void promise30() {
        InnPurposes x = Inns.ofSixKinds(1, 0, 0);
        boolean[][] under = {
            {true, true, false, false, false, false, false},
            {true, false, true, false, false, false, false},
            {true, false, false, true, false, false, false},
            {true, true, false, false, true, false, false},
            {true, false, true, false, false, true, false},
            {true, false, false, true, false, false, true}};
        for (int g = 0; g < 6; g++) {
            for (int k = 0; k < 7; k++) {
                Due.is("30: guest " + g + " for " + k, x.taken(g, k), under[g][k] ? g + 1 : -12);
            }
        }
        InnPurposes y = Inns.withOne(0, 0, 0);
        Due.is("30: a guest for a guest", y.taken(0, 0), 0);
        Due.is("30: a guest for a lover", y.taken(0, 1), -12);
        Due.is("30: kind 7", y.taken(0, 7), -2);
        Due.is("30: kind -1", y.taken(1, -1), -2);
        Due.is("30: no such guest", y.taken(1, 0), -11);
        Due.is("30: guest -1", y.taken(-1, 6), -11);
    }

    private static void promise31() {
        InnPurposes x = full();
        Inns.build(x, "keep 1");
        Inns.feed(x, "abc");
        x.plan(0, 0);
        for (int i = 0; i < 4; i++) {
            x.book(0, 0);
        }
        x.see(0, 0, 0, true);
        x.see(0, 0, 0, true);
        x.see(0, 0, 0, true);
        x.act(0, 2, 0);
        int[] due = {2, 2, 4, 3, 5, 3, 12};
        for (int what = 0; what < 7; what++) {
            Due.is("31: count " + what, x.count(what), due[what]);
        }
        Due.is("31: count 7", x.count(7), -2);
        Due.is("31: count -1", x.count(-1), -2);
        Due.is("31: count far on", x.count(MAX), -2);
    }

    private static void promise32() {
        InnPurposes x = new InnPurposes();
        for (int t = 0; t < 6; t++) {
            Due.is("32: tape " + t, x.tape(t, t % 5, 60), 1);
            Due.is("32: its last item", x.read(t, 59), 0);
            Due.is("32: none behind", x.read(t, 60), InnPurposes.NO);
        }
        x.item(1, 2, 7);
        Due.is("32: anew", x.tape(1, 1, 3), 1);
        Due.is("32: all 0", x.read(1, 2), 0);
        Due.is("32: no fourth", x.read(1, 3), InnPurposes.NO);
        Due.is("32: an empty row", x.tape(1, 2, 0), 1);
        Due.is("32: no first", x.item(1, 0, 1), -13);
        Due.is("32: nothing, n below 0", x.tape(1, -1, -5), 1);
        Due.is("32: nothing is there", x.item(1, 0, 1), -11);
        Due.is("34: nothing is there to read", x.read(1, 0), InnPurposes.NO);
        Due.is("32: nothing, n above 60", x.tape(1, -1, 61), 1);
        Due.is("32: tape 6", x.tape(6, 9, 99), -1);
        Due.is("32: tape -1", x.tape(-1, 0, 1), -1);
        Due.is("32: sort 5", x.tape(0, 5, -1), -2);
        Due.is("32: sort -2", x.tape(0, -2, -1), -2);
        Due.is("32: n 61", x.tape(0, 0, 61), -2);
        Due.is("32: n -1", x.tape(0, 0, -1), -14);
        Due.is("32: n far below", x.tape(0, 4, MIN), -14);
        Due.is("32: nothing changed", x.read(0, 59), 0);
    }

    private static void keeps(InnPurposes x, int sort, long v, long due) {
        x.tape(2, sort, 2);
        Due.is("33: item of sort " + sort, x.item(2, 1, v), 1);
        Due.is("34: " + v + " in sort " + sort, x.read(2, 1), due);
        Due.is("34: the other item", x.read(2, 0), 0);
    }

    private static void promises33And34() {
        InnPurposes x = new InnPurposes();
        keeps(x, 0, 200, -56);
        keeps(x, 0, 127, 127);
        keeps(x, 0, -129, 127);
        keeps(x, 0, 256, 0);
        keeps(x, 1, 40000, -25536);
        keeps(x, 1, 1L << 40 | 5, 5);
        keeps(x, 2, 1L << 31, MIN);
        keeps(x, 2, 1L << 32, 0);
        keeps(x, 3, Long.MAX_VALUE, Long.MAX_VALUE);
        keeps(x, 3, -1, -1);
        keeps(x, 4, 256, 1);
        keeps(x, 4, 1L << 40, 1);
        keeps(x, 4, -1, 1);
        keeps(x, 4, 0, 0);
        x.item(2, 1, 5);
        x.item(2, 1, 0);
        Due.is("33: a boolean again", x.read(2, 1), 0);
        Due.is("33: tape 6", x.item(6, 0, 0), -1);
        Due.is("33: tape -1", x.item(-1, 0, 0), -1);
        Due.is("33: nothing there", x.item(3, -1, 0), -11);
        Due.is("33: place -1", x.item(2, -1, 0), -13);
        Due.is("33: place 2", x.item(2, 2, 0), -13);
        Due.is("33: place far on", x.item(2, MAX, 0), -13);
        Due.is("34: tape 6", x.read(6, 0), InnPurposes.NO);
        Due.is("34: tape -1", x.read(-1, 0), InnPurposes.NO);
        Due.is("34: nothing there", x.read(3, 0), InnPurposes.NO);
        Due.is("34: place -1", x.read(2, -1), InnPurposes.NO);
        Due.is("34: place 2", x.read(2, 2), InnPurposes.NO);
        Due.is("34: place far below", x.read(2, MIN), InnPurposes.NO);
    }

    private static void row(InnPurposes x, int tape, int... due) {
        for (int i = 0; i < due.length; i++) {
            Due.is("35: item " + i + " of tape " + tape, x.read(tape, i), due[i]);
        }
    }

    private static InnPurposes withRow() {
        InnPurposes x = new InnPurposes();
        x.tape(0, 2, 5);
        for (int i = 0; i < 5; i++) {
            x.item(0, i, i + 1);
        }
        return x;
    }

    private static void promise35() {
        InnPurposes x = withRow();
        Due.is("35: onward in itself", x.shift(0, 0, 0, 1, 4), 4);
        row(x, 0, 1, 1, 2, 3, 4);
        x = withRow();
        Due.is("35: back in itself", x.shift(0, 2, 0, 0, 3), 3);
        row(x, 0, 3, 4, 5, 4, 5);
        x.tape(1, 2, 3);
        Due.is("35: to another", x.shift(0, 3, 1, 1, 2), 2);
        row(x, 1, 0, 4, 5);
        row(x, 0, 3, 4, 5, 4, 5);
        x.tape(4, 2, 5);
        Due.is("35: a whole row", x.shift(0, 0, 4, 0, 5), 5);
        row(x, 4, 3, 4, 5, 4, 5);
        Due.is("35: none, at both ends", x.shift(0, 5, 1, 3, 0), 0);
        Due.is("35: beyond the other's end", x.shift(0, 0, 1, 2, 2), -13);
        Due.is("35: beyond its own end", x.shift(0, 4, 1, 0, 2), -13);
        Due.is("35: none, beyond its end", x.shift(0, 6, 1, 0, 0), -13);
        Due.is("35: none, beyond the other's end", x.shift(0, 0, 1, 4, 0), -13);
        Due.is("35: n -1", x.shift(0, 1, 1, 1, -1), -13);
        Due.is("35: i -1", x.shift(0, -1, 1, 1, 1), -13);
        Due.is("35: j -1", x.shift(0, 1, 1, -1, 1), -13);
        Due.is("35: far on", x.shift(0, MAX, 1, 0, MAX), -13);
        Due.is("35: many", x.shift(0, 1, 1, 1, MAX), -13);
        Due.is("35: far below", x.shift(0, MIN, 1, MIN, MIN), -13);
        row(x, 1, 0, 4, 5);
        x.tape(2, 3, 5);
        Due.is("35: unlike sorts", x.shift(0, 0, 2, 0, 1), -12);
        Due.is("35: unlike sorts ahead of places", x.shift(0, -1, 2, 0, 1), -12);
        Due.is("35: nothing there", x.shift(0, 0, 3, 0, 1), -11);
        Due.is("35: nothing to shift", x.shift(3, -1, 0, 0, 1), -11);
        Due.is("35: tape 6", x.shift(6, 0, 3, 0, 1), -1);
        Due.is("35: tape -1", x.shift(-1, 0, 0, 0, 1), -1);
        Due.is("35: other 6", x.shift(3, 0, 6, 0, 1), -1);
        Due.is("35: other -1", x.shift(0, 0, -1, 0, 1), -1);
    }

    public static void main(String[] args) {
        promise25();
        promises26And27();
        promise27Others();
        promises28And29();
        promise30();
        promise31();
        promise32();
        promises33And34();
        promise35();
        Due.finish();
    }
}
