/** Promises 1 to 11: guests, purposes, houses. */
public final class GuestsTest {
    private static final int ALL = 4095;

    private GuestsTest() {
    }

    private static void promise1() {
        InnPurposes x = new InnPurposes();
        for (int what = 0; what < 7; what++) {
            Due.is("1: count " + what + " at first", x.count(what), 0);
        }
        Due.is("1: no house: keep", x.told(1), 3);
        Due.is("1: night", x.told(0), 0);
        Due.is("1: no image", x.undo(), -3);
        for (int t = 0; t < 6; t++) {
            Due.is("1: tape " + t, x.item(t, 0, 1), -11);
        }
        for (int p = 0; p < 12; p++) {
            Due.is("1: cellar " + p, x.told(10 + p), 0);
            Due.is("1: weight " + p, x.told(30 + p), p % 10);
        }
    }

    private static void promise2() {
        InnPurposes x = new InnPurposes();
        Due.is("2: kind -1", x.guest(-1, 0, 0), -1);
        Due.is("2: kind 7", x.guest(7, 0, 0), -1);
        Due.is("2: kind named ahead of v", x.guest(7, 10, 5000), -1);
        Due.is("2: v -1", x.guest(0, -1, 0), -2);
        Due.is("2: v 10", x.guest(0, 10, 0), -2);
        Due.is("2: means -1", x.guest(0, 0, -1), -2);
        Due.is("2: means 4096", x.guest(0, 0, 4096), -2);
        Due.is("2: none came", x.count(0), 0);
        for (int g = 0; g < 6; g++) {
            Due.is("2: guest " + g, x.guest(g + 1, g + 4, ALL - g), g);
        }
        Due.is("2: a seventh", x.guest(0, 0, 0), -4);
        Due.is("2: a seventh of no kind", x.guest(7, 0, 0), -1);
        Due.is("2: a seventh with a bad v", x.guest(0, 10, 0), -2);
        Due.is("2: there are six", x.count(0), 6);
        for (int g = 0; g < 6; g++) {
            Due.is("2: kind", x.of(g, 0), g + 1);
            Due.is("2: v", x.of(g, 1), g + 4);
            Due.is("2: means", x.of(g, 2), ALL - g);
            Due.is("2: lost", x.of(g, 3), 0);
            Due.is("2: in", x.of(g, 4), 1);
        }
        guestAgainBehindUndo();
    }

    private static void guestAgainBehindUndo() {
        InnPurposes x = new InnPurposes();
        x.image();
        x.guest(6, 1, 3);
        x.row(0, 2, 7);
        x.stay(0, false);
        x.set(0, 1, 9);
        x.undo();
        Due.is("2: comes again", x.guest(6, 2, 5), 0);
        Due.is("2: lost nothing", x.of(0, 3), 0);
        Due.is("2: is in", x.of(0, 4), 1);
        Due.is("2: row is 0", x.row(0, 2, 0), 0);
    }

    private static void promise3Tempts() {
        InnPurposes x = Inns.ofSixKinds(0, 3, 0);
        int[][] due = {
            {5, 7, 9, 11, 13, 15, 17, 19, 21, 23, 5, 7},
            {8, 7, 12, 11, 16, 15, 20, 19, 24, 23, 8, 7},
            {2, 3, 4, 5, 6, 7, 8, 9, 10, 11, 2, 3},
            {0, 0, 0, 11, 13, 15, 17, 19, 21, 23, 0, 0},
            {8, 7, 12, 11, 16, 15, 20, 19, 24, 23, 8, 7},
            {2, 3, 4, 5, 6, 7, 8, 9, 10, 11, 2, 3}};
        for (int g = 0; g < 6; g++) {
            for (int p = 0; p < 12; p++) {
                Due.is("3: tempts guest " + g + " of " + p, x.of(g, 10 + p), due[g][p]);
            }
        }
        x.set(4, 1, 1 << 4 | 1 << 5);
        Due.is("3: a maid lost 4", x.of(4, 14), 6);
        Due.is("3: a maid lost 5", x.of(4, 15), 5);
        Due.is("3: a maid did not lose 6", x.of(4, 16), 20);
        x.set(1, 1, 16);
        Due.is("3: a lover lost 4", x.of(1, 14), 16);
        x.pass(4);
        Due.is("3: a child by night 4", x.of(5, 13), 9);
        Due.is("3: a general by night 4", x.of(2, 13), 5);
        x.pass(1);
        Due.is("3: a child by night 5", x.of(5, 13), 5);
        Inns.build(x, "leave 8 x=0;leave 99 x=1;leave 16 x=2;fancy 9 x=3");
        Due.is("3: a general, half cut toward 0", x.of(2, 10), -1);
        Due.is("3: a general, far below", x.of(2, 11), -46);
        Due.is("3: a guest, below 0", x.of(0, 12), -7);
        Due.is("3: a thief with too great a v", x.of(3, 11), 0);
        Due.is("3: a thief", x.of(3, 13), 20);
    }

    private static void promise3Told() {
        InnPurposes x = Inns.withOne(6, 5, ALL);
        x.row(0, 0, 1);
        x.row(0, 1, 2);
        x.row(0, 2, 3);
        x.row(0, 3, 4);
        int[] due = {1, 2, 3, 4, 1, 17, 20, 23, 22, 25, 3, 4};
        for (int p = 0; p < 12; p++) {
            Due.is("3: tempts a told one of " + p, x.of(0, 10 + p), due[p]);
        }
        Due.is("3: its prey", x.of(0, 5), 9);
    }

    private static void promise3Prey() {
        InnPurposes x = Inns.withOne(0, 0, ALL);
        Due.is("3: prey", x.of(0, 5), 9);
        x.weight(3, 9);
        Due.is("3: prey, the first of several", x.of(0, 5), 3);
        x.set(0, 0, 1 << 10 | 1);
        Due.is("3: prey of what it means alone", x.of(0, 5), 0);
        x.stay(0, false);
        Due.is("3: no prey, as it is not in", x.of(0, 5), -5);
        Due.is("3: never empty, as it is not in", x.of(0, 6), -5);
        x.stay(0, true);
        Inns.build(x, "leave 5 x=0;leave 4 x=10");
        Due.is("3: prey must tempt above 0", x.of(0, 5), 10);
        x.set(0, 0, 1);
        Due.is("3: what tempts 0 is none", x.of(0, 5), -5);
        x.set(0, 0, 0);
        Due.is("3: no prey, as it means nothing", x.of(0, 5), -5);
    }

    private static void promise3Empty() {
        InnPurposes x = Inns.withOne(0, 0, 0);
        Due.is("3: empty now", x.of(0, 6), 0);
        x.stay(0, false);
        Due.is("3: empty now, not in", x.of(0, 6), 0);
        x.stay(0, true);
        x.set(0, 0, ALL);
        Due.is("3: empty behind twelve", x.of(0, 6), 12);
        Due.is("3: asking changes nothing", x.of(0, 2), ALL);
        Inns.build(x, "leave 99 n>0");
        x.set(0, 0, 127);
        Due.is("3: one in ten nights, the 7th is night 61", x.of(0, 6), -5);
        x.set(0, 0, 63);
        Due.is("3: empty behind 51", x.of(0, 6), 51);
        x.pass(1);
        x.set(0, 0, 63);
        Due.is("3: empty behind 60", x.of(0, 6), 60);
        x.pass(1);
        x.set(0, 0, 63);
        Due.is("3: empty behind 59", x.of(0, 6), 59);
        x.set(0, 0, 127);
        Due.is("3: not by 60", x.of(0, 6), -5);
    }

    private static void promise3Back() {
        InnPurposes x = Inns.withOne(0, 0, 1);
        x.guest(0, 0, 1 << 9);
        x.pass(1);
        Due.is("3: back from the cellar", x.of(0, 7), 1);
        x.set(0, 1, 7 | 1 << 9);
        Due.is("3: back 0 and 9, which lie there", x.of(0, 7), 1 | 1 << 9);
        x.set(1, 0, 2);
        Due.is("3: back 1, which another one means", x.of(0, 7), 3 | 1 << 9);
        x.set(0, 0, 3);
        Due.is("3: not what it means itself", x.of(0, 7), 1 << 9);
        x.set(0, 0, 4);
        x.set(0, 1, 4);
        Due.is("3: not from itself", x.of(0, 7), 0);
        InnPurposes y = Inns.withOne(0, 0, 1 << 4);
        y.guest(0, 0, 1 << 9);
        y.set(1, 1, ALL);
        Due.is("3: nothing lies there, one gives", y.of(1, 7), 1 << 4);
        y.pass(1);
        Due.is("3: only what lies there", y.of(1, 7), 1 << 4 | 1 << 9);
        InnPurposes z = Inns.withOne(0, 0, 0);
        z.set(0, 1, ALL);
        z.image();
        z.guest(0, 0, 6);
        Due.is("3: a second one gives", z.of(0, 7), 6);
        z.undo();
        Due.is("3: nobody is there to give", z.of(0, 7), 0);
        for (int g = 1; g < 6; g++) {
            z.guest(0, 0, 1 << g);
        }
        Due.is("3: five give", z.of(0, 7), 62);
    }

    private static void promise3Wrong() {
        InnPurposes x = Inns.withOne(0, 0, ALL);
        int[] off = {-1, 8, 9, 22, 30, Integer.MIN_VALUE, Integer.MAX_VALUE};
        for (int what : off) {
            Due.is("3: of what " + what, x.of(0, what), -10001);
        }
        int[] guests = {-1, 1, 6, Integer.MIN_VALUE, Integer.MAX_VALUE};
        for (int g : guests) {
            Due.is("3: of guest " + g, x.of(g, 0), -10001);
        }
    }

    private static void promise4() {
        InnPurposes x = Inns.withOne(0, 0, 5);
        Due.is("4: means were", x.set(0, 0, 6), 5);
        Due.is("4: lost was", x.set(0, 1, 4095), 0);
        Due.is("4: means are", x.set(0, 0, 0), 6);
        Due.is("4: lost is", x.set(0, 1, 3), 4095);
        Due.is("4: no such guest", x.set(1, 0, 0), -1);
        Due.is("4: guest -1", x.set(-1, 0, 0), -1);
        Due.is("4: what -1", x.set(0, -1, 0), -1);
        Due.is("4: what 2", x.set(0, 2, 0), -1);
        Due.is("4: what ahead of purposes", x.set(0, 2, 4096), -1);
        Due.is("4: purposes -1", x.set(0, 0, -1), -2);
        Due.is("4: purposes 4096", x.set(0, 1, 4096), -2);
        Due.is("4: nothing changed, means", x.of(0, 2), 0);
        Due.is("4: nothing changed, lost", x.of(0, 3), 3);
    }

    private static void promise5() {
        InnPurposes x = new InnPurposes();
        Due.is("5: weight of 11", x.weight(11, 9), 1);
        Due.is("5: weight of 10", x.weight(10, 3), 0);
        Due.is("5: weight of 11 again", x.weight(11, 0), 9);
        Due.is("5: weight of 10 is", x.told(40), 3);
        Due.is("5: weight of 11 is", x.told(41), 0);
        Due.is("5: purpose -1", x.weight(-1, 0), -1);
        Due.is("5: purpose 12", x.weight(12, 10), -1);
        Due.is("5: n -1", x.weight(0, -1), -2);
        Due.is("5: n 10", x.weight(0, 10), -2);
        Due.is("5: nothing changed", x.told(30), 0);
    }

    private static void promise6() {
        InnPurposes x = Inns.withOne(0, 0, 5);
        x.guest(0, 0, 5);
        Due.is("6: was in", x.stay(0, false), 1);
        Due.is("6: was not in", x.stay(0, false), 0);
        Due.is("6: is not", x.of(0, 4), 0);
        Due.is("6: the other is", x.told(4), 2);
        Due.is("6: was not", x.stay(0, true), 0);
        Due.is("6: both are", x.told(4), 3);
        Due.is("6: no such guest", x.stay(2, true), -1);
        Due.is("6: guest -1", x.stay(-1, true), -1);
    }

    private static void promise7() {
        InnPurposes x = Inns.withHouse("keep 0");
        x.guest(0, 0, 1 << 9 | 1 << 8);
        x.guest(0, 0, 1 << 9);
        x.pass(1);
        Due.is("7: lies there twice", x.told(19), 2);
        Due.is("7: did not lose 8", x.redeem(0, 8), -3);
        Due.is("7: had back, one lies there", x.redeem(0, 9), 1);
        Due.is("7: means it", x.of(0, 2), 1 << 9 | 1 << 8);
        Due.is("7: lost no more", x.of(0, 3), 0);
        Due.is("7: not twice", x.redeem(0, 9), -3);
        x.set(0, 1, 1 << 9);
        Due.is("7: means it", x.redeem(0, 9), -3);
        x.set(1, 1, 1 << 9 | 1 << 7);
        Due.is("7: does not lie there", x.redeem(1, 7), -3);
        Due.is("7: the last", x.redeem(1, 9), 0);
        x.set(1, 0, 0);
        x.set(1, 1, 1 << 9);
        Due.is("7: none lies there", x.redeem(1, 9), -3);
        x.set(1, 0, 1 << 3);
        x.pass(1);
        x.set(0, 1, 1 << 3);
        x.set(0, 0, 0);
        Due.is("7: someone else's", x.redeem(0, 3), 0);
        Due.is("7: no such guest", x.redeem(2, 3), -1);
        Due.is("7: guest -1", x.redeem(-1, 3), -1);
        Due.is("7: purpose 12", x.redeem(0, 12), -1);
        Due.is("7: purpose -1", x.redeem(0, -1), -1);
    }

    private static void promise8() {
        InnPurposes x = Inns.withOne(6, 0, 5);
        x.guest(3, 0, 5);
        for (int part = 0; part < 4; part++) {
            Due.is("8: was 0", x.row(0, part, 9 - part), 0);
        }
        for (int part = 0; part < 4; part++) {
            Due.is("8: was", x.row(0, part, 0), 9 - part);
        }
        Due.is("8: another kind", x.row(1, 0, 1), -3);
        Due.is("8: another kind, a bad n", x.row(1, 0, 10), -2);
        Due.is("8: n -1", x.row(0, 0, -1), -2);
        Due.is("8: n 10", x.row(0, 0, 10), -2);
        Due.is("8: part 4", x.row(0, 4, 10), -1);
        Due.is("8: part -1", x.row(0, -1, 0), -1);
        Due.is("8: no such guest", x.row(2, 0, 0), -1);
        Due.is("8: guest -1", x.row(-1, 0, 0), -1);
    }

    private static void promise9() {
        InnPurposes x = new InnPurposes();
        Due.is("9: sign -1", x.feed(-1), -2);
        Due.is("9: sign 128", x.feed(128), -2);
        for (int i = 1; i <= 100; i++) {
            Due.is("9: sign " + i, x.feed(i == 1 ? 0 : 127), i);
        }
        Due.is("9: a 101st", x.feed(0), -4);
        Due.is("9: a bad 101st", x.feed(128), -2);
        Due.is("9: there are 100", x.count(5), 100);
    }

    private static void fault(String text, int fault) {
        InnPurposes x = new InnPurposes();
        Due.is("10: house of " + text, Inns.build(x, text), -10 - fault);
        Due.is("10: THE TEXT is empty behind " + text, x.count(5), 0);
        Due.is("10: no house by " + text, x.count(1), 0);
    }

    private static void stands(String text) {
        InnPurposes x = new InnPurposes();
        Due.is("10: house of " + text, Inns.build(x, text), 0);
        Due.is("10: one house by " + text, x.count(1), 1);
        Due.is("10: THE TEXT is empty behind " + text, x.feed('k'), 1);
    }

    private static void promise10Faults() {
        String[] early = {"", "k", "keep", "keep ", "keep 1;", "fancy 1", "fancy 12", "fancy 12 ", "leave 1 p",
            "leave 1 p<", "fancy 1 (p<1", "fancy 1 !", "fancy 1 p<1&", "fancy 1 p<1|", "keep 1;leave 1 (p=1)|"};
        for (String text : early) {
            fault(text, text.length());
        }
        fault("x", 0);
        fault(" keep 1", 0);
        fault("Keep 1", 0);
        fault("kancy 1 p=1", 1);
        fault("fancy1 p=1", 5);
        fault("fancy  1 p=1", 6);
        fault("fancy 123 p=1", 8);
        fault("fancy 1  p=1", 8);
        fault("fancy 1p=1", 7);
        fault("fancy x p=1", 6);
        fault("fancy 1 q=1", 8);
        fault("fancy 1 p!1", 9);
        fault("fancy 1 p==1", 10);
        fault("fancy 1 p=x", 10);
        fault("fancy 1 p=123", 12);
        fault("fancy 1 p=1 ", 11);
        fault("fancy 1 p=1)", 11);
        fault("fancy 1 (p=1;", 12);
        fault("fancy 1 (p=1)p=1", 13);
        fault("fancy 1 p=1!p=1", 11);
        fault("fancy 1 p=1&&p=1", 12);
        fault("fancy 1 p=1&|p=1", 12);
        fault("fancy 1 ()", 9);
        fault("keep 123", 7);
        fault("keep 1 ", 6);
        fault("keep 1&", 6);
        fault("keep -1", 5);
        fault("keep 1;;keep 1", 7);
        fault("keep 1; keep 1", 7);
        fault("keep 1\nkeep 1", 6);
        fault("fancy 1 (((((p=1)))))", 12);
        fault("fancy 1 !!!!!p=1", 12);
        fault("fancy 1 (!(!(p=1))))", 12);
        fault("fancy 1 p=1&((((p=1&!p=2))))", 20);
        fault("keep 1;keep 1;keep 1;keep 1;keep 1;keep 1;keep 1;keep 1;keep 1;keep 1;keep 1", 69);
        fault("keep 1;keep 1;keep 1;keep 1;keep 1;keep 1;keep 1;keep 1;keep 1;keep 1;", 69);
    }

    private static void promise10Stands() {
        stands("keep 0");
        stands("keep 00");
        stands("keep 99");
        stands("fancy 0 n<99");
        stands("fancy 99 p=00&k>1|v<2&x=3|w>4;leave 1 n=5;keep 1");
        stands("fancy 1 ((((p=1))))");
        stands("fancy 1 !!!!p=1");
        stands("fancy 1 p=1&((((p=1)&!p=2)))");
        stands("fancy 1 !(!(p=1))&!!!!p=2|((!(p=1)))&((((p=3))))");
        stands("keep 1;keep 1;keep 1;keep 1;keep 1;keep 1;keep 1;keep 1;keep 1;keep 1");
    }

    private static void promise10Full() {
        InnPurposes x = new InnPurposes();
        for (int i = 0; i < 6; i++) {
            Due.is("10: house " + i, Inns.build(x, i == 5 ? "keep 55" : "keep 1" + i), i);
            Due.is("10: an empty text", x.house(), i == 5 ? -4 : -10);
            Due.is("10: the newest holds", x.told(1), i == 5 ? 55 : 10 + i);
        }
        Due.is("10: a seventh", Inns.build(x, "keep 2"), -4);
        Due.is("10: THE TEXT stays", x.count(5), 6);
        Due.is("10: the sixth holds", x.told(1), 55);
        Inns.feed(x, "?");
        Due.is("10: full ahead of the fault", x.house(), -4);
        Due.is("10: there are six", x.count(1), 6);
    }

    private static void tempts(String text, int guest, int purpose, int due) {
        InnPurposes x = Inns.ofSixKinds(0, 4, 0);
        x.pass(7);
        Due.is("10: house of " + text, Inns.build(x, text), 0);
        Due.is("10: " + text + ": guest " + guest + " of " + purpose, x.of(guest, 10 + purpose), due);
    }

    private static void promise10Sums() {
        tempts("fancy 50 p=3", 3, 6, 67);
        tempts("fancy 50 p=3", 3, 3, 0);
        tempts("fancy 50 p=1", 1, 3, 61);
        tempts("fancy 50 p=1", 0, 1, 7);
        tempts("fancy 50 k>0&k<2", 1, 3, 61);
        tempts("fancy 50 v=4", 0, 3, 61);
        tempts("fancy 50 v>4|v<4", 0, 3, 11);
        tempts("fancy 50 x=11", 0, 11, 57);
        tempts("fancy 50 w=1&x>9", 0, 11, 57);
        tempts("fancy 50 w=1&x>9", 0, 1, 7);
        tempts("fancy 50 n=7", 0, 0, 55);
        tempts("fancy 50 n=07", 0, 0, 55);
        tempts("fancy 50 n<7", 0, 0, 5);
        tempts("fancy 50 n>7", 0, 0, 5);
        tempts("fancy 50 n<8", 0, 0, 55);
        tempts("fancy 50 n>6", 0, 0, 55);
        tempts("fancy 50 n<0", 0, 0, 5);
        tempts("fancy 50 x<0", 0, 0, 5);
        tempts("fancy 50 x=0", 0, 0, 55);
        tempts("fancy 50 x>0", 0, 0, 5);
        tempts("fancy 50 x<99", 0, 11, 57);
        tempts("fancy 50 x>99", 0, 11, 7);
        tempts("fancy 50 x=99", 0, 11, 7);
        tempts("fancy 50 !x=1", 0, 1, 7);
        tempts("fancy 50 !x=1", 0, 0, 55);
        tempts("fancy 50 !!x=1", 0, 1, 57);
        tempts("fancy 50 x=1|x=2&x=3", 0, 1, 57);
        tempts("fancy 50 x=3&x=2|x=1", 0, 1, 57);
        tempts("fancy 50 (x=1|x=2)&x=3", 0, 1, 7);
        tempts("fancy 50 !(x=1|x=2)&n=7", 0, 1, 7);
        tempts("fancy 50 !x=1|x=2&n=7", 0, 2, 59);
        tempts("fancy 50 n=7&(x=1)", 0, 2, 9);
        tempts("fancy 50 n=7&(x=2)", 0, 2, 59);
        tempts("fancy 50 n=7&!(x=1&(x=2|x=1)|x=4)", 0, 1, 7);
        tempts("fancy 50 n=7&!(x=1&(x=2|x=1)|x=4)", 0, 2, 59);
        tempts("fancy 50 !x=1&!x=2", 0, 2, 9);
        tempts("fancy 50 x=5|x=4|x=3|x=2|x=1|x=0", 0, 0, 55);
        tempts("fancy 50 n=7;leave 9 x=0;fancy 1 x=0;keep 1;leave 30 x=1", 0, 0, 47);
        tempts("leave 99 n=7;leave 99 n=7;leave 99 n=7", 0, 0, -292);
    }

    private static void promise10Holds() {
        InnPurposes x = Inns.withOne(0, 0, 1);
        Inns.build(x, "fancy 7 x=0;keep 5");
        Due.is("10: keep", x.told(1), 5);
        Inns.build(x, "fancy 9 x=0;keep");
        Due.is("10: a fault: the one that held holds, keep", x.told(1), 5);
        Due.is("10: a fault: the one that held holds, sum", x.of(0, 10), 12);
        Inns.build(x, "leave 1 x=0");
        Due.is("10: a new one alone holds, keep", x.told(1), 3);
        Due.is("10: a new one alone holds, sum", x.of(0, 10), 4);
        Inns.build(x, "keep 7;fancy 1 x=1;keep 4;keep 9");
        Due.is("10: the last keep", x.told(1), 9);
        InnPurposes y = Inns.withOne(0, 0, 1);
        Inns.build(y, "fancy 9 x=0;keep");
        Due.is("10: a fault: none held, keep", y.told(1), 3);
        Due.is("10: a fault: none held, sum", y.of(0, 10), 5);
    }

    private static void promise10Anew() {
        InnPurposes x = Inns.withOne(0, 0, 1);
        Inns.build(x, "fancy 9 x=0;keep 8;fancy 9 x=0;?");
        Inns.build(x, "leave 2 x=0");
        Due.is("10: of a text with a fault nothing stays, keep", x.told(1), 3);
        Due.is("10: of a text with a fault nothing stays, sum", x.of(0, 10), 3);
        x.pass(14);
        Inns.build(x, "fancy 9 n=4;fancy 20 n=3;keep 4");
        Due.is("10: NIGHT modulo 10 by night 14", x.of(0, 10), 14);
        x.pass(19);
        Due.is("10: NIGHT modulo 10 by night 33", x.of(0, 10), 25);
    }

    private static void promise11() {
        InnPurposes x = Inns.withHouse("keep 0");
        Due.is("11: keep 0", x.told(1), 0);
        Due.is("11: nobody means", x.told(2), 0);
        x.guest(0, 0, 3);
        x.guest(0, 0, 7);
        x.guest(0, 0, 4095);
        x.stay(1, false);
        Due.is("11: all mean, in or not", x.told(2), 17);
        Due.is("11: who is in", x.told(4), 5);
        x.pass(2);
        Due.is("11: night", x.told(0), 2);
        Due.is("11: in the cellar", x.told(19), 1);
        Due.is("11: less is meant", x.told(2), 13);
        int[] off = {-1, 5, 9, 22, 29, 42, Integer.MIN_VALUE, Integer.MAX_VALUE};
        for (int what : off) {
            Due.is("11: told " + what, x.told(what), -1);
        }
    }

    private static void gives(InnPurposes x, int from, int to, int purpose) {
        x.set(from, 0, x.of(from, 2) | 1 << purpose);
        x.set(to, 1, x.of(to, 3) | 1 << purpose);
    }

    private static void promise11Ring() {
        InnPurposes x = Inns.ofSixKinds(0, 0, 0);
        Due.is("11: no ring", x.told(3), 0);
        gives(x, 0, 1, 0);
        gives(x, 1, 2, 1);
        Due.is("11: a row is no ring", x.told(3), 0);
        gives(x, 2, 0, 2);
        Due.is("11: a ring of three", x.told(3), 3);
        gives(x, 3, 4, 3);
        gives(x, 4, 3, 4);
        Due.is("11: not two rings together", x.told(3), 3);
        gives(x, 4, 1, 5);
        gives(x, 0, 3, 6);
        Due.is("11: a ring through five", x.told(3), 5);
        x.stay(0, false);
        Due.is("11: in or not", x.told(3), 5);
        x.set(1, 0, x.of(1, 2) | 1 | 1 << 5);
        Due.is("11: what the other means it can't be given", x.told(3), 2);
        InnPurposes z = Inns.ofSixKinds(0, 0, 0);
        gives(z, 0, 1, 0);
        gives(z, 0, 2, 1);
        gives(z, 1, 2, 2);
        gives(z, 2, 1, 3);
        gives(z, 2, 0, 4);
        Due.is("11: a ring one way round alone", z.told(3), 3);
        InnPurposes y = Inns.withOne(0, 0, 1);
        y.set(0, 1, 1);
        Due.is("11: no ring of one", y.told(3), 0);
        y.guest(0, 0, 2);
        y.set(0, 1, 2);
        y.set(1, 1, 1);
        Due.is("11: a ring of two", y.told(3), 2);
    }

    public static void main(String[] args) {
        promise1();
        promise2();
        promise3Tempts();
        promise3Told();
        promise3Prey();
        promise3Empty();
        promise3Back();
        promise3Wrong();
        promise4();
        promise5();
        promise6();
        promise7();
        promise8();
        promise9();
        promise10Faults();
        promise10Stands();
        promise10Full();
        promise10Sums();
        promise10Holds();
        promise10Anew();
        promise11();
        promise11Ring();
        Due.finish();
    }
}
