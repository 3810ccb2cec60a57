/** Promises 21 to 24: plans, books. */
public final class PlansTest {
    private static final int ALL = 4095;

    private PlansTest() {
    }

    private static void promise21() {
        InnPurposes x = Inns.withOne(0, 0, ALL);
        Due.is("21: a night, whoever", x.plan(0, -7), 1);
        Due.is("21: not in", x.plan(1, 0), 2);
        Due.is("21: in", x.plan(2, 0), 3);
        Due.is("21: means all again", x.plan(3, 0), 4);
        Due.is("21: what 4", x.plan(4, 0), -1);
        Due.is("21: what -2", x.plan(-2, 0), -1);
        for (int what = 1; what < 4; what++) {
            Due.is("21: no such guest by " + what, x.plan(what, 1), -1);
            Due.is("21: guest -1 by " + what, x.plan(what, -1), -1);
        }
        for (int i = 5; i <= 10; i++) {
            Due.is("21: row " + i, x.plan(0, 6), i);
        }
        Due.is("21: an eleventh", x.plan(0, 0), -4);
        Due.is("21: an eleventh that is none", x.plan(1, 6), -1);
        Due.is("21: there are ten", x.count(3), 10);
        Due.is("21: empty then", x.plan(-1, 99), 0);
        Due.is("21: it is empty", x.count(3), 0);
        Due.is("21: the first again", x.plan(0, 0), 1);
    }

    private static void promise22() {
        InnPurposes x = Inns.withHouse("keep 0");
        x.guest(0, 0, 3);
        x.guest(0, 0, 12);
        Due.is("22: no plan", x.ends(0), 4);
        Due.is("22: no plan, the cellar", x.ends(1), 0);
        x.plan(0, 0);
        Due.is("22: a night", x.ends(0), 2);
        Due.is("22: a night, the cellar", x.ends(1), 2);
        x.plan(1, 0);
        x.plan(0, 0);
        Due.is("22: one is not in", x.ends(0), 1);
        Due.is("22: one is not in, the cellar", x.ends(1), 3);
        x.plan(2, 0);
        x.plan(0, 0);
        Due.is("22: it is in again", x.ends(0), 0);
        x.plan(3, 1);
        Due.is("22: the other means all again", x.ends(0), 2);
        Due.is("22: the cellar stays", x.ends(1), 4);
        x.plan(0, 0);
        Due.is("22: one of these goes", x.ends(0), 1);
        Due.is("22: it goes to the cellar", x.ends(1), 5);
        Due.is("22: nothing has changed", x.told(2), 4);
        Due.is("22: both are in", x.told(4), 3);
        Due.is("22: no night has gone", x.told(0), 0);
        Due.is("22: nothing lies there", x.told(13), 0);
        Due.is("22: what 2", x.ends(2), -1);
        Due.is("22: what -1", x.ends(-1), -1);
    }

    private static void promise22Maid() {
        InnPurposes x = Inns.withHouse("leave 20 x=9;keep 1");
        x.guest(4, 0, 1 << 9);
        x.set(0, 1, 1 << 9);
        Due.is("22: a maid, nothing goes", x.ends(0), 1);
        x.plan(0, 0);
        Due.is("22: what she lost tempts less", x.ends(0), 1);
        x.plan(3, 0);
        x.plan(0, 0);
        Due.is("22: none of it is lost then", x.ends(0), 0);
        Due.is("22: keep 1 clears the cellar", x.ends(1), 0);
        InnPurposes y = Inns.withOne(0, 0, 3);
        y.set(0, 1, 6);
        y.plan(3, 0);
        Due.is("22: what it means and what it lost", y.ends(0), 3);
        Due.is("22: nothing has changed", y.of(0, 3), 6);
        y.plan(3, 0);
        Due.is("22: a second time nothing is lost", y.ends(0), 3);
        y.set(0, 0, 0);
        y.set(0, 1, 1 << 11);
        Due.is("22: what it lost alone", y.ends(0), 1);
    }

    private static void promise23() {
        InnPurposes x = new InnPurposes();
        for (int i = 1; i <= 8; i++) {
            Due.is("23: row " + i, x.book(i == 8 ? 11 : 0, i == 8 ? 99 : 0), i);
        }
        Due.is("23: a ninth", x.book(0, 0), -4);
        Due.is("23: a bad ninth", x.book(0, 100), -2);
        Due.is("23: purpose 12", x.book(12, 100), -1);
        Due.is("23: purpose -2", x.book(-2, 0), -1);
        Due.is("23: often -1", x.book(0, -1), -2);
        Due.is("23: there are eight", x.count(4), 8);
        Due.is("23: empty then", x.book(-1, 100), 0);
        Due.is("23: it is empty", x.count(4), 0);
    }

    private static void promise24() {
        InnPurposes x = Inns.withHouse("keep 0");
        Due.is("24: no book", x.looked(), -5);
        x.guest(0, 0, 1 << 5);
        x.pass(1);
        x.book(5, 1);
        x.book(4, 0);
        Due.is("24: all is so", x.looked(), -5);
        x.book(11, 1);
        Due.is("24: the third is otherwise", x.looked(), 2);
        x.book(5, 0);
        Due.is("24: the first of two", x.looked(), 2);
        x.redeem(0, 5);
        Due.is("24: as it lies there now", x.looked(), 0);
        x.book(-1, 0);
        Due.is("24: none of the old book", x.looked(), -5);
        for (int i = 0; i < 8; i++) {
            x.book(i, 0);
        }
        Due.is("24: eight rows that are so", x.looked(), -5);
    }

    public static void main(String[] args) {
        promise21();
        promise22();
        promise22Maid();
        promise23();
        promise24();
        Due.finish();
    }
}
