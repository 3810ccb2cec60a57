/** Inns that the tests begin with. */
final class Inns {
    private Inns() {
    }

    static void feed(InnPurposes x, String text) {
        for (int i = 0; i < text.length(); i++) {
            x.feed(text.charAt(i));
        }
    }

    static int build(InnPurposes x, String text) {
        feed(x, text);
        return x.house();
    }

    /** A guest of each kind, by number, each with v and means. */
    static InnPurposes ofSixKinds(int first, int v, int means) {
        InnPurposes x = new InnPurposes();
        for (int kind = first; kind < first + 6; kind++) {
            x.guest(kind, v, means);
        }
        return x;
    }

    static InnPurposes withOne(int kind, int v, int means) {
        InnPurposes x = new InnPurposes();
        x.guest(kind, v, means);
        return x;
    }

    static InnPurposes withHouse(String text) {
        InnPurposes x = new InnPurposes();
        build(x, text);
        return x;
    }

    /** By NIGHT 1, in a house where but one night in ten takes something: the tenth from now is the first. */
    static InnPurposes oneNightInTen(int means) {
        InnPurposes x = withHouse("leave 99 n>0");
        x.guest(0, 0, means);
        x.stay(0, false);
        x.pass(1);
        x.stay(0, true);
        return x;
    }

    /** By a NIGHT up to 9999, with nobody there; 168 calls at most. */
    static InnPurposes late(int night) {
        InnPurposes x = new InnPurposes();
        for (int i = 0; i < night / 60; i++) {
            x.pass(60);
        }
        x.pass(night % 60);
        return x;
    }
}
