/** Promises 12 to 15: nights. */
public final class NightsTest {
    private static final int ALL = 4095;

    private NightsTest() {
    }

    private static void promise12() {
        InnPurposes x = Inns.withOne(0, 0, ALL);
        Due.is("12: no night", x.pass(0), 0);
        Due.is("12: nothing taken", x.of(0, 2), ALL);
        Due.is("12: n -1", x.pass(-1), -2);
        Due.is("12: n 61", x.pass(61), -2);
        Due.is("12: a night", x.pass(1), 1);
        Due.is("12: means 9 no more", x.of(0, 2), ALL - 512);
        Due.is("12: lost 9", x.of(0, 3), 512);
        Due.is("12: it lies in the cellar", x.told(19), 1);
        Due.is("12: two more", x.pass(2), 3);
        Due.is("12: means 8 and 7 no more", x.of(0, 2), 127 | 3 << 10);
        Due.is("12: lost 7 to 9", x.of(0, 3), 7 << 7);
        Due.is("12: keep 3: 9 lies there no more", x.told(19), 0);
        Due.is("12: nor does 7", x.told(17), 0);
        Due.is("12: no night beyond", x.pass(60), 63);
        Due.is("12: all is lost", x.of(0, 3), ALL);
    }

    private static void promise12Late() {
        InnPurposes x = Inns.withOne(0, 0, 0);
        for (int i = 1; i <= 166; i++) {
            Due.is("12: sixty nights", x.pass(60), 60 * i);
        }
        Due.is("12: beyond 9999", x.pass(40), -3);
        Due.is("12: a bad n is named first", x.pass(61), -2);
        Due.is("12: up to 9998", x.pass(38), 9998);
        x.set(0, 0, 3);
        Due.is("12: two more are too many", x.pass(2), -3);
        Due.is("12: nothing is taken then", x.of(0, 2), 3);
        Due.is("12: the last", x.pass(1), 9999);
        Due.is("12: none more", x.pass(1), -3);
        Due.is("12: but none at all", x.pass(0), 9999);
        Due.is("12: asked beyond 9999", x.on(1, 0), 0);
        Due.is("12: asked beyond 9999", x.lasts(0, 0), 1);
        x.set(0, 0, 7);
        Due.is("12: empty beyond 9999", x.of(0, 6), 3);
        Due.is("12: mean beyond 9999", x.mean(2, 0), 1);
        x.plan(0, 0);
        x.plan(0, 0);
        Due.is("12: ends beyond 9999", x.ends(0), 1);
    }

    private static void promise12ByHowAllIs() {
        InnPurposes x = Inns.ofSixKinds(1, 9, 1 << 6);
        x.pass(1);
        Due.is("12: a thief with too great a v and the told one lose nothing", x.told(2), 2);
        Due.is("12: four of a purpose in one night", x.told(16), 4);
        InnPurposes y = Inns.withHouse("leave 99 n=0;leave 99 n=2;keep 2");
        y.guest(0, 0, 7);
        Due.is("12: nothing is taken", y.pass(1), 1);
        Due.is("12: means all", y.of(0, 2), 7);
        Due.is("12: night 1 takes", y.pass(1), 2);
        Due.is("12: means 2 no more", y.of(0, 2), 3);
        Due.is("12: by night 2 one less lies there", y.told(12), 0);
        y.weight(0, 9);
        Due.is("12: asked by how all is then", y.on(2, 30), 2);
        y.stay(0, false);
        y.pass(2);
        Due.is("12: who is not in loses nothing", y.of(0, 2), 3);
    }

    /** The same night modulo 10 again, with all else changed, and nothing asked between. */
    private static void promise12Again() {
        InnPurposes x = Inns.withOne(0, 0, 0);
        x.pass(1);
        x.set(0, 0, 7);
        x.pass(10);
        x.set(0, 0, 7);
        x.weight(0, 9);
        x.pass(10);
        x.set(0, 0, 7);
        x.weight(1, 9);
        x.weight(0, 0);
        x.pass(1);
        Due.is("12: by the weights as they are", x.of(0, 2), 5);
        x.stay(0, false);
        x.pass(10);
        x.stay(0, true);
        x.weight(0, 9);
        x.weight(1, 0);
        Due.is("12: asked by the weights as they are", x.on(1, 30), 4);
        x.pass(9);
        Inns.build(x, "leave 99 x<9");
        Due.is("12: and by the house as it is", x.on(10, 30), x.of(0, 2));
        InnPurposes y = Inns.withOne(0, 0, ALL);
        y.pass(10);
        y.weight(0, 9);
        y.set(0, 0, ALL);
        Due.is("13: ten nights on, by the weights as they are", y.on(1, 30), ALL - 1);
        y.stay(0, false);
        Due.is("13: not in", y.on(1, 30), ALL);
    }

    private static void promise12Cellar() {
        InnPurposes x = Inns.withHouse("keep 0");
        for (int g = 0; g < 6; g++) {
            x.guest(0, 0, 1);
        }
        for (int i = 0; i < 16; i++) {
            x.pass(1);
            for (int g = 0; g < 6; g++) {
                x.set(g, 0, 1);
            }
        }
        Due.is("12: 96 lie there", x.told(10), 96);
        Due.is("12: 99 at most, asked", x.on(1, 10), 99);
        x.pass(1);
        Due.is("12: 99 at most", x.told(10), 99);
        Inns.build(x, "keep 1");
        x.set(0, 0, 1);
        Due.is("12: one less behind 99 at most", x.on(1, 10), 98);
        x.pass(60);
        Due.is("12: one less each night", x.told(10), 39);
        x.pass(50);
        Due.is("12: 0 at least", x.told(10), 0);
    }

    private static void promise12Keep() {
        InnPurposes x = Inns.withHouse("keep 4");
        x.guest(0, 0, 1);
        x.pass(1);
        Due.is("12: lies there behind night 1", x.told(10), 1);
        x.pass(2);
        Due.is("12: and behind night 3", x.told(10), 1);
        x.pass(1);
        Due.is("12: not behind night 4", x.told(10), 0);
        InnPurposes y = Inns.withHouse("keep 0");
        y.guest(0, 0, 1);
        y.pass(60);
        Due.is("12: keep 0: never", y.told(10), 1);
    }

    private static void promise13() {
        InnPurposes x = Inns.withHouse("keep 2");
        x.guest(0, 0, 7);
        x.guest(3, 2, 12);
        Due.is("13: now", x.on(0, 0), 5);
        Due.is("13: behind 1", x.on(1, 0), 3);
        Due.is("13: behind 2", x.on(2, 0), 1);
        Due.is("13: behind 60", x.on(60, 0), 0);
        Due.is("13: guest 0 behind 1", x.on(1, 30), 3);
        Due.is("13: guest 1 behind 1", x.on(1, 31), 4);
        Due.is("13: 3 behind 1", x.on(1, 13), 1);
        Due.is("13: 3 behind 2", x.on(2, 13), 0);
        Due.is("13: 2 behind 2, of two guests, less one", x.on(2, 12), 1);
        Due.is("13: 1 behind 2", x.on(2, 11), 0);
        Due.is("13: 0 behind 3", x.on(3, 10), 1);
        Due.is("13: 11 behind 3", x.on(3, 21), 0);
        Due.is("13: nothing has changed", x.told(2), 5);
        Due.is("13: no night has gone", x.told(0), 0);
        Due.is("13: nothing is lost", x.of(0, 3), 0);
        Due.is("13: nothing lies there", x.told(13), 0);
        int[] off = {-1, 1, 9, 22, 29, 32, 36, Integer.MIN_VALUE, Integer.MAX_VALUE};
        for (int what : off) {
            Due.is("13: what " + what, x.on(61, what), -1);
        }
        Due.is("13: n -1", x.on(-1, 0), -2);
        Due.is("13: n 61", x.on(61, 31), -2);
    }

    private static void promise13Kinds() {
        InnPurposes x = Inns.withOne(1, 9, 1 << 4 | 1 << 5);
        x.guest(3, 5, 1 << 4 | 1 << 6);
        x.guest(6, 9, 1 << 2 | 1 << 9);
        x.row(2, 2, 5);
        x.row(2, 1, 4);
        Due.is("13: a lover behind 1", x.on(1, 30), 1 << 5);
        Due.is("13: a thief behind 2", x.on(2, 31), 1 << 4);
        Due.is("13: a told one behind 1", x.on(1, 32), 1 << 2);
        Due.is("13: a told one behind 2", x.on(2, 32), 0);
        x.plan(0, 0);
        x.plan(0, 0);
        Due.is("22: all three at the end", x.ends(0), 1);
        Due.is("20: all three behind 2", x.mean(2, 1), 3);
    }

    private static void promise14() {
        InnPurposes x = Inns.withOne(0, 0, ALL - 32);
        int[] due = {10, 8, 7, 6, 5, -5, 4, 3, 2, 1, 11, 9};
        for (int p = 0; p < 12; p++) {
            Due.is("14: lasts of " + p, x.lasts(0, p), due[p]);
        }
        Due.is("14: nothing has changed", x.of(0, 2), ALL - 32);
        Due.is("14: no such guest", x.lasts(1, 0), -1);
        Due.is("14: guest -1", x.lasts(-1, 0), -1);
        Due.is("14: purpose 12", x.lasts(0, 12), -1);
        Due.is("14: purpose -1", x.lasts(0, -1), -1);
        x.stay(0, false);
        Due.is("14: not in", x.lasts(0, 9), -5);
        InnPurposes y = Inns.withHouse("leave 99 n<9;leave 99 n>9");
        y.guest(0, 0, 127);
        Due.is("14: behind 10", y.lasts(0, 6), 10);
        Due.is("14: behind 60", y.lasts(0, 1), 60);
        Due.is("14: not by 60", y.lasts(0, 0), -5);
        InnPurposes z = Inns.withHouse("leave 25 x=9");
        z.guest(5, 0, 1 << 9);
        Due.is("14: a child is tempted by and by", z.lasts(0, 9), 3);
    }

    private static void promise15() {
        InnPurposes x = Inns.withOne(0, 0, 1 << 7);
        Due.is("15: the least one that tempts more", x.decoys(0, 7, 1), 1 << 8);
        Due.is("15: two", x.decoys(0, 7, 2), 3 << 8);
        Due.is("15: there are no three", x.decoys(0, 7, 3), -5);
        Due.is("15: nothing has changed", x.of(0, 2), 1 << 7);
        x.set(0, 0, 1 << 7 | 1 << 9);
        Due.is("15: none is needed", x.decoys(0, 7, 1), 0);
        Due.is("15: one is there", x.decoys(0, 7, 2), 1 << 8);
        Due.is("15: the most one has no decoys", x.decoys(0, 9, 1), -5);
        Due.is("15: it does not mean it", x.decoys(0, 6, 1), -5);
        x.set(0, 0, 1 << 3);
        Due.is("15: six", x.decoys(0, 3, 6), 63 << 4);
        x.set(0, 0, 1 << 4);
        Due.is("15: not six", x.decoys(0, 4, 6), -5);
        Due.is("15: five", x.decoys(0, 4, 5), 31 << 5);
        x.set(0, 0, 1);
        Due.is("15: the least six", x.decoys(0, 0, 6), 126);
        x.stay(0, false);
        x.set(0, 0, 1 << 9);
        Due.is("15: not in", x.decoys(0, 9, 6), 0);
        Due.is("15: n 0", x.decoys(0, 9, 0), -2);
        Due.is("15: n 7", x.decoys(0, 9, 7), -2);
        Due.is("15: a bad n ahead of what it does not mean", x.decoys(0, 1, 7), -2);
        Due.is("15: no such guest", x.decoys(1, 9, 7), -1);
        Due.is("15: guest -1", x.decoys(-1, 9, 1), -1);
        Due.is("15: purpose 12", x.decoys(0, 12, 1), -1);
        Due.is("15: purpose -1", x.decoys(0, -1, 1), -1);
    }

    private static void promise15Maid() {
        InnPurposes x = Inns.withOne(4, 0, 1 << 7);
        x.set(0, 1, 1 << 8);
        Due.is("15: what a maid lost tempts her less", x.decoys(0, 7, 1), 1 << 9);
        x.set(0, 1, 1 << 7);
        Due.is("15: so does what she keeps, and 2 is ahead of it", x.decoys(0, 7, 2), 3 << 2);
        InnPurposes y = Inns.withHouse("leave 99 x=7&n<2;leave 99 x<6&n>0");
        y.guest(0, 0, 1 << 7);
        Due.is("15: in two nights nothing", y.decoys(0, 7, 2), 0);
        Due.is("15: in three the only two go too early", y.decoys(0, 7, 3), -5);
        y.weight(10, 9);
        y.weight(6, 9);
        Due.is("15: in three the least three that tempt as much", y.decoys(0, 7, 3), 1 << 6 | 3 << 8);
    }

    public static void main(String[] args) {
        promise12();
        promise12Late();
        promise12ByHowAllIs();
        promise12Again();
        promise12Cellar();
        promise12Keep();
        promise13();
        promise13Kinds();
        promise14();
        promise15();
        promise15Maid();
        Due.finish();
    }
}
