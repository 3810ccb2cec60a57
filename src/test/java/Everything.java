import java.util.ArrayList;
import java.util.List;

/** An inn with something of everything, and all that can be seen of an inn, to hold two of them side by side. */
final class Everything {
    interface Call {
        long on(InnPurposes x);
    }

    private final InnPurposes x;
    private final List<String> sights = new ArrayList<>();

    private Everything(InnPurposes x) {
        this.x = x;
    }

    /** Three guests, two nights behind an image, half a text, tapes of four sorts; some 70 calls. */
    static InnPurposes inn() {
        InnPurposes x = new InnPurposes();
        x.guest(6, 4, 4095);
        x.guest(4, 3, 1365);
        x.guest(3, 5, 2730);
        x.row(0, 1, 5);
        x.row(0, 3, 2);
        x.weight(2, 8);
        x.weight(11, 6);
        Inns.build(x, "leave 9 p=1;keep 4");
        x.set(1, 1, 40);
        x.stay(2, false);
        x.pass(3);
        x.see(0, 1, 3, false);
        x.see(1, 2, 4, true);
        x.plan(0, 0);
        x.plan(3, 1);
        x.book(9, 1);
        x.book(4, 0);
        x.image();
        goOn(x);
        tapes(x);
        x.act(0, 2, 5);
        Inns.feed(x, "keep 2");
        return x;
    }

    private static void goOn(InnPurposes x) {
        x.set(0, 0, 255);
        x.weight(5, 1);
        x.row(0, 0, 1);
        x.pass(2);
        x.set(2, 1, 64);
        x.see(2, 0, 1, true);
        x.plan(0, 0);
        x.plan(1, 0);
        x.book(0, 3);
    }

    private static void tapes(InnPurposes x) {
        x.tape(0, 0, 3);
        x.item(0, 1, 7);
        x.tape(2, 3, 2);
        x.item(2, 0, 1L << 40);
        x.tape(3, 4, 1);
        x.item(3, 0, 1);
        x.tape(4, 1, 0);
    }

    /** All that can be seen, by some 270 calls more; the object is of no use behind it. */
    static List<String> of(InnPurposes x) {
        Everything all = new Everything(x);
        all.lookAtTapes();
        all.lookAtState();
        Inns.feed(x, "1");
        all.see("house", x.house());
        all.see("its keep", x.told(1));
        all.see("undo", x.undo());
        all.lookAtState();
        return all.sights;
    }

    private void see(String what, long is) {
        sights.add(what + " is " + is);
    }

    private void lookAtTapes() {
        for (int t = 0; t < 6; t++) {
            for (int i = 0; i < 3; i++) {
                see("read " + t + " " + i, x.read(t, i));
            }
            see("judge " + t, x.judge(t, 0));
        }
        for (int i = 0; i < 13; i++) {
            see("trace " + i, x.trace(i));
        }
    }

    private void lookAtState() {
        int[] told = {0, 1, 2, 3, 4};
        for (int what : told) {
            see("told " + what, x.told(what));
        }
        for (int p = 0; p < 12; p++) {
            see("cellar " + p, x.told(10 + p));
            see("weight " + p, x.told(30 + p));
        }
        for (int what = 0; what < 7; what++) {
            see("count " + what, x.count(what));
        }
        for (int g = 0; g < x.count(0); g++) {
            lookAtGuest(g);
        }
        see("ends 0", x.ends(0));
        see("ends 1", x.ends(1));
        see("looked", x.looked());
    }

    private void lookAtGuest(int g) {
        for (int what = 0; what < 22; what += what == 7 ? 3 : 1) {
            see("of " + g + " " + what, x.of(g, what));
        }
        for (int what = 0; what < 2; what++) {
            see("meant " + g + " " + what, x.meant(g, what));
            see("can " + g + " " + what, x.can(g, what));
        }
    }

    /** What is refused changes nothing, and what is asked: of two inns that are alike one gets the call. */
    static void stays(String what, long due, Call call) {
        stays(what, due, x -> 0, call);
    }

    /** The same, in an inn in which something has been done before. */
    static void stays(String what, long due, Call before, Call call) {
        InnPurposes one = inn();
        InnPurposes other = inn();
        before.on(one);
        before.on(other);
        Due.is(what, call.on(one), due);
        List<String> got = of(one);
        List<String> want = of(other);
        Due.is(what + ": how much can be seen", got.size(), want.size());
        for (int i = 0; i < Math.min(got.size(), want.size()); i++) {
            Due.same(what + " changes nothing, what can be seen", got.get(i), want.get(i));
        }
    }
}
