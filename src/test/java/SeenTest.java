/** Promises 16 to 20: what is seen, odds, means. */
public final class SeenTest {
    private static final int ALL = 4095;

    private SeenTest() {
    }

    private static void promise16() {
        InnPurposes x = Inns.withOne(0, 0, ALL);
        Due.is("16: none yet", x.see(-1, 99, 99, true), 0);
        Due.is("16: the first", x.see(0, 0, 0, true), 1);
        Due.is("16: the second", x.see(0, 12, 11, false), 2);
        Due.is("16: guest -2", x.see(-2, 0, 0, true), -1);
        Due.is("16: no such guest", x.see(1, 0, 0, true), -1);
        Due.is("16: purpose 12", x.see(0, 13, 12, true), -1);
        Due.is("16: purpose -1", x.see(0, 0, -1, true), -1);
        Due.is("16: n -1", x.see(0, -1, 0, true), -2);
        Due.is("16: n 13", x.see(0, 13, 0, true), -2);
        Due.is("16: there are two", x.count(2), 2);
        x.see(0, 0, 0, true);
        x.see(0, 0, 0, true);
        Due.is("16: the fifth", x.see(0, 0, 0, true), 5);
        Due.is("16: a sixth", x.see(0, 0, 0, true), -4);
        Due.is("16: a bad sixth", x.see(0, 13, 0, true), -2);
        Due.is("16: none again", x.see(-1, 0, 0, false), 0);
        Due.is("16: there are none", x.count(2), 0);
    }

    private static void promise17() {
        InnPurposes x = Inns.withOne(0, 0, 0);
        x.guest(0, 0, 0);
        Due.is("17: all sets", x.meant(0, 0), 4096);
        Due.is("17: the least of all", x.meant(0, 1), 0);
        x.see(0, 0, 3, true);
        Due.is("17: those with 3", x.meant(0, 0), 2048);
        Due.is("17: the least with 3", x.meant(0, 1), 8);
        Due.is("17: of another one nothing is seen", x.meant(1, 0), 4096);
        x.see(0, 1, 3, true);
        Due.is("17: one of 4 to 9 goes first", x.meant(0, 0), 2048 - 32);
        Due.is("17: the least of these", x.meant(0, 1), 24);
        x.see(0, 2, 3, false);
        Due.is("17: just one of these", x.meant(0, 0), 6 * 32);
        Due.is("17: the least of those", x.meant(0, 1), 24);
        x.see(0, 12, 0, true);
        Due.is("17: none behind twelve", x.meant(0, 0), 0);
        Due.is("17: no least", x.meant(0, 1), -5);
        x.stay(0, false);
        Due.is("17: not in, 3 can't go", x.meant(0, 0), 0);
        x.see(-1, 0, 0, true);
        x.see(0, 12, 0, true);
        Due.is("17: not in, all stays", x.meant(0, 0), 2048);
        Due.is("17: not in, the least", x.meant(0, 1), 1);
        Due.is("17: what it means is as it was", x.of(0, 2), 0);
        Due.is("17: what 2", x.meant(0, 2), -1);
        Due.is("17: what -1", x.meant(0, -1), -1);
        Due.is("17: no such guest", x.meant(2, 0), -1);
        Due.is("17: guest -1", x.meant(-1, 0), -1);
    }

    private static void promise17From() {
        InnPurposes x = Inns.withOne(4, 0, 0);
        x.see(0, 0, 9, true);
        x.see(0, 1, 9, true);
        Due.is("17: a maid's 9 goes first", x.meant(0, 0), 0);
        x.set(0, 1, 512);
        Due.is("17: but if she lost it, 5 to 8 are ahead, and 4 as much", x.meant(0, 0), 2048 - 64);
        x.see(-1, 0, 0, true);
        x.see(0, 3, 0, true);
        x.see(0, 3, 2, true);
        x.see(0, 3, 1, false);
        x.see(0, 3, 3, false);
        x.stay(0, false);
        Due.is("17: four of one night", x.meant(0, 0), 256);
        Due.is("17: the least by four of one night", x.meant(0, 1), 5);
        InnPurposes y = Inns.withHouse("leave 99 n<3");
        y.guest(0, 0, 0);
        y.see(0, 1, 0, true);
        y.see(0, 0, 0, true);
        Due.is("17: night 0 takes nothing", y.meant(0, 0), 2048);
        y.pass(3);
        Due.is("17: night 3 takes, seen from then on", y.meant(0, 0), 2048 - 2);
        Due.is("17: 0 ahead of 10", y.meant(0, 1), 3);
    }

    private static void promise18() {
        InnPurposes x = Inns.withOne(3, 9, 1 << 4 | 1 << 6);
        x.guest(3, 0, 1);
        Due.is("18: all numbers", x.can(0, 0), 10);
        Due.is("18: the least of all", x.can(0, 1), 0);
        x.see(0, 1, 6, true);
        Due.is("18: too great for 6", x.can(0, 0), 3);
        Due.is("18: the least of these", x.can(0, 1), 7);
        x.see(-1, 0, 0, true);
        x.see(0, 2, 4, true);
        x.see(0, 2, 6, false);
        Due.is("18: too great for 4, not for 6", x.can(0, 0), 2);
        Due.is("18: the least of those", x.can(0, 1), 5);
        x.see(0, 0, 1, true);
        Due.is("18: none", x.can(0, 0), 0);
        Due.is("18: no least", x.can(0, 1), -5);
        Due.is("18: of another one nothing is seen", x.can(1, 0), 10);
        Due.is("18: its number is as it was", x.of(0, 1), 9);
        Due.is("18: what 2", x.can(0, 2), -1);
        Due.is("18: what -1", x.can(0, -1), -1);
        Due.is("18: no such guest", x.can(2, 0), -1);
        Due.is("18: guest -1", x.can(-1, 0), -1);
        InnPurposes y = Inns.withHouse("fancy 99 v=3&x=0");
        y.guest(0, 0, 3);
        y.see(0, 1, 1, true);
        Due.is("18: a house that fancies one number", y.can(0, 1), 3);
        Due.is("18: it alone", y.can(0, 0), 1);
    }

    private static void odds(InnPurposes x, int above, int below) {
        Due.is("19: above the line", x.odds(0, 0), above);
        Due.is("19: below the line", x.odds(0, 1), below);
    }

    private static void promise19() {
        InnPurposes x = Inns.withOne(0, 0, 0);
        odds(x, 1, 1);
        x.set(0, 0, 1 << 9);
        odds(x, 0, 1);
        x.set(0, 0, 1 << 5);
        odds(x, 1, 3);
        x.set(0, 0, 1 << 4);
        odds(x, 5, 12);
        x.set(0, 0, 1 << 4 | 1 << 7);
        odds(x, 1, 6);
        x.set(0, 0, 1 << 10);
        odds(x, 11, 12);
        Due.is("19: nothing has changed", x.of(0, 2), 1 << 10);
        x.stay(0, false);
        odds(x, 0, 1);
        x.stay(0, true);
        Inns.build(x, "leave 99 x<9");
        x.set(0, 0, 1);
        odds(x, 1, 4);
        Due.is("19: part 2", x.odds(0, 2), InnPurposes.NO);
        Due.is("19: part -1", x.odds(0, -1), InnPurposes.NO);
        Due.is("19: no such guest", x.odds(1, 0), InnPurposes.NO);
        Due.is("19: guest -1", x.odds(-1, 1), InnPurposes.NO);
    }

    private static void mean(InnPurposes x, int n, int above, int below) {
        Due.is("20: above the line behind " + n, x.mean(n, 0), above);
        Due.is("20: below the line behind " + n, x.mean(n, 1), below);
    }

    private static void promise20() {
        InnPurposes x = new InnPurposes();
        Due.is("20: there are none", x.mean(0, 0), InnPurposes.NO);
        x.guest(0, 0, 15);
        mean(x, 0, 4, 1);
        mean(x, 1, 3, 1);
        mean(x, 4, 0, 1);
        x.guest(0, 0, 63);
        mean(x, 0, 5, 1);
        x.guest(0, 0, ALL);
        mean(x, 0, 22, 3);
        mean(x, 1, 19, 3);
        mean(x, 4, 10, 3);
        x.guest(0, 0, 0);
        mean(x, 0, 11, 2);
        mean(x, 11, 1, 4);
        mean(x, 60, 0, 1);
        Due.is("20: nothing has changed", x.told(2), 22);
        Due.is("20: n -1", x.mean(-1, 0), InnPurposes.NO);
        Due.is("20: n 61", x.mean(61, 0), InnPurposes.NO);
        Due.is("20: part 2", x.mean(0, 2), InnPurposes.NO);
        Due.is("20: part -1", x.mean(0, -1), InnPurposes.NO);
    }

    public static void main(String[] args) {
        promise16();
        promise17();
        promise17From();
        promise18();
        promise19();
        promise20();
        Due.finish();
    }
}
