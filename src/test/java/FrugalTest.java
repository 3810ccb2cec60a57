import java.lang.management.ManagementFactory;

/** All calls of a run live in one room: what they make is counted. No call but the constructor makes anything. */
public final class FrugalTest {
    private static final String[] TEXTS = {
        "fancy 1 x=1|x=2|x=3|x=4|x=5|x=6|x=7|x=8|x=9|x=10;leave 99 n<9&!(k=9);keep 9;leave 1 !!!!(((x=0", "keep 1",
        "fancy 9 !(x>5&(n<5|!(w=3)))|v>4&k<6;leave 7 p=2&x<4;keep 2"};

    /** Rounds of calls on one inn, so that it stays under 512 of them, and how many inns get them. */
    private static final int ROUNDS = 3;
    private static final int INNS = 170;

    private FrugalTest() {
    }

    private static long made() {
        com.sun.management.ThreadMXBean threads =
            (com.sun.management.ThreadMXBean) ManagementFactory.getThreadMXBean();
        return threads.getThreadAllocatedBytes(Thread.currentThread().getId());
    }

    private static long calls(InnPurposes x, int from) {
        long sum = 0;
        for (int kind = 1; kind < 7; kind++) {
            sum += x.guest(kind, from % 10, from * 31 & 4095);
        }
        for (int i = from; i < from + ROUNDS; i++) {
            int g = i % 7;
            sum += x.guest(i % 8, i % 10, i & 4095) + x.set(g, i % 2, i * 77 & 4095) + x.of(g, i % 22) + x.told(i % 42);
            sum += x.pass(i % 3) + x.on(60, i % 36) + x.lasts(g, i % 12) + x.decoys(g, i % 12, 6) + x.redeem(g, i % 12);
            sum += x.see(g, i % 13, i % 12, i % 2 == 0) + x.meant(g, i % 2) + x.can(g, i % 2);
            sum += x.odds(g, 0) + x.mean(60, 0);
            sum += x.plan(i % 4, g) + x.ends(0) + x.book(i % 12, i % 3) + x.looked() + x.weight(i % 12, i % 10);
            sum += x.tape(g, i % 5, 60) + x.item(g, i % 60, i) + x.read(g, 0) + x.shift(g, 0, g, 9, 50) + x.judge(g, 3);
            sum += x.image() + x.undo() + x.act(g, i % 3, i) + x.trace(i % 20) + x.taken(g, i % 7) + x.count(i % 7);
            sum += x.stay(g, i % 5 > 0) + x.row(g, i % 4, i % 10);
            String text = TEXTS[i % TEXTS.length];
            for (int k = 0; k < text.length(); k++) {
                sum += x.feed(text.charAt(k));
            }
            sum += x.house();
        }
        return sum;
    }

    private static InnPurposes[] inns(int many) {
        InnPurposes[] inns = new InnPurposes[many];
        for (int i = 0; i < many; i++) {
            inns[i] = new InnPurposes();
        }
        return inns;
    }

    private static long calls(InnPurposes[] inns) {
        long sum = 0;
        for (int i = 0; i < inns.length; i++) {
            sum += calls(inns[i], i * ROUNDS);
        }
        return sum;
    }

    public static void main(String[] args) {
        calls(inns(INNS));
        long before = made();
        InnPurposes[] inns = inns(INNS);
        long built = (made() - before) / INNS;
        before = made();
        calls(inns);
        long called = made() - before;
        System.out.println("made by a constructor: " + built + " bytes, by the calls of " + INNS + ": " + called);
        Due.so("a constructor stays under 60,000 bytes", built < 60_000);
        Due.so("the calls make nothing of note", called < 20_000);
        Due.finish();
    }
}
