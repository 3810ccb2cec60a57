/** That Everything notices what a call can change; else "it changes nothing" would be said too easily. */
public final class EverythingTest {
    private EverythingTest() {
    }

    private static void notices(String what, Everything.Call change) {
        InnPurposes one = Everything.inn();
        change.on(one);
        Due.so("notices " + what, !Everything.of(one).equals(Everything.of(Everything.inn())));
    }

    private static void guests() {
        notices("a guest", x -> x.guest(0, 0, 0));
        for (int g = 0; g < 3; g++) {
            int guest = g;
            for (int p = 0; p < 12; p++) {
                int bit = 1 << p;
                notices("what a guest means", x -> x.set(guest, 0, x.of(guest, 2) ^ bit));
                notices("what a guest lost", x -> x.set(guest, 1, x.of(guest, 3) ^ bit));
            }
            notices("who stays", x -> x.stay(guest, x.of(guest, 4) == 0));
        }
        for (int part = 0; part < 4; part++) {
            int one = part;
            notices("a row", x -> x.row(0, one, 9));
        }
    }

    private static void inns() {
        for (int p = 0; p < 12; p++) {
            int purpose = p;
            notices("a weight", x -> x.weight(purpose, (x.told(30 + purpose) + 1) % 10));
        }
        notices("a night", x -> x.pass(1));
        notices("what is had back", x -> x.set(0, 0, 0) + x.set(0, 1, 4095) + x.redeem(0, 6));
        notices("a sign", x -> x.feed('1'));
        notices("another sign", x -> x.feed(0));
        notices("a text that is empty", InnPurposes::house);
        notices("a house", x -> x.feed('7') + x.house());
    }

    private static void rows() {
        notices("what is seen", x -> x.see(0, 0, 0, true));
        notices("that nothing is seen", x -> x.see(-1, 0, 0, true));
        notices("a row of the plan", x -> x.plan(0, 0));
        notices("another row of the plan", x -> x.plan(3, 0));
        notices("no plan", x -> x.plan(-1, 0));
        notices("a row of the book", x -> x.book(0, 0));
        notices("no book", x -> x.book(-1, 0));
        notices("an image", InnPurposes::image);
        notices("undo", InnPurposes::undo);
        notices("an act", x -> x.act(0, 0, 0));
        notices("no act", x -> x.act(0, 3, 0));
    }

    private static void tapes() {
        for (int t = 0; t < 6; t++) {
            int tape = t;
            notices("a tape", x -> x.tape(tape, 2, 1));
        }
        notices("no tape", x -> x.tape(4, -1, 0));
        notices("an item", x -> x.item(0, 2, 1));
        notices("a shift", x -> x.shift(0, 1, 0, 0, 1));
    }

    public static void main(String[] args) {
        guests();
        inns();
        rows();
        tapes();
        Due.finish();
    }
}
