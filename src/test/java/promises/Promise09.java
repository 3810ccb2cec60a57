/** Promise 9: feed. */
final class Promise09 {
    private Promise09() {
    }

    @Says({"A sign (0 .. 127) comes behind THE TEXT's: how many it has", "BAD"})
    static void signsAre0To127() {
        InnPurposes x = new InnPurposes();
        Due.is("sign -1", x.feed(-1), -2);
        Due.is("sign 128", x.feed(128), -2);
        Due.is("the least", x.feed(Integer.MIN_VALUE), -2);
        Due.is("the greatest", x.feed(Integer.MAX_VALUE), -2);
        Due.is("k and 256, cut to a byte a k", x.feed('k' + 256), -2);
        Due.is("sign 0", x.feed(0), 1);
        Due.is("sign 127", x.feed(127), 2);
    }

    @Says("comes behind THE TEXT's")
    static void signsStandAsTheyCame() {
        InnPurposes x = new InnPurposes();
        String text = "keep 12";
        for (int i = 0; i < text.length(); i++) {
            Due.is("how many", x.feed(text.charAt(i)), i + 1);
        }
        Due.is("a house", x.house(), 0);
        Due.is("its keep", x.told(1), 12);
        Due.is("the first sign again", x.feed('k'), 1);
    }

    @Says({"A HOUSE is read from THE TEXT (bytes, 100 at most)", "FULL"})
    static void theHundredthSignComesAndNoMore() {
        InnPurposes x = new InnPurposes();
        for (int i = 1; i < 100; i++) {
            x.feed('k');
        }
        Due.is("the 100th", x.feed('k'), 100);
        Due.is("the 101st", x.feed('k'), -4);
        Due.is("there are", x.count(5), 100);
    }

    @Says("the first that a call's words name")
    static void badIsNamedAheadOfFull() {
        InnPurposes x = new InnPurposes();
        for (int i = 0; i < 100; i++) {
            x.feed('k');
        }
        Due.is("sign 128", x.feed(128), -2);
        Due.is("sign -1", x.feed(-1), -2);
    }

    @Says("What is answered so changes nothing")
    static void aRefusedSignChangesNothing() {
        Everything.stays("sign 128", -2, x -> x.feed(128));
        Everything.stays("sign -1", -2, x -> x.feed(-1));
        InnPurposes x = new InnPurposes();
        Inns.feed(x, "fancy 11 x=0|x=1|x=2|x=3|x=4|x=5|x=6;leave 44 x=9&n=0;leave 22 x=8;");
        Inns.feed(x, "leave 1 v>4|v<4|v=4;keep 1;keep 7");
        Due.is("a 101st", x.feed('7'), -4);
        Due.is("the text of 100 stands", x.house(), 0);
        Due.is("its last clause holds", x.told(1), 7);
    }
}
