/** Inns that the tests begin with. */
final class Inns {
    private Inns() {
    }

    static void feed(InnPurposes x, String text) {
        for (int i = 0; i < text.length(); i++) {
            x.feed(text.charAt(i));
        }
    }

    static int build(InnPurposes x, String text) {
        feed(x, text);
        return x.house();
    }

    /** A guest of each kind, by number, each with v and means. */
    static InnPurposes ofSixKinds(int first, int v, int means) {
        InnPurposes x = new InnPurposes();
        for (int kind = first; kind < first + 6; kind++) {
            x.guest(kind, v, means);
        }
        return x;
    }

    static InnPurposes withOne(int kind, int v, int means) {
        InnPurposes x = new InnPurposes();
        x.guest(kind, v, means);
        return x;
    }

    static InnPurposes withHouse(String text) {
        InnPurposes x = new InnPurposes();
        build(x, text);
        return x;
    }
}
