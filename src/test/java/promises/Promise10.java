/** Promise 10: house. */
final class Promise10 {
    private static final String LONG = "fancy 1 p=1&k>0|(!v<9&(x=3));leave 22 !!w>10|n=09;keep 99";

    private Promise10() {
    }

    private static void stands(String text) {
        InnPurposes x = new InnPurposes();
        Due.is("house of " + text, Inns.build(x, text), 0);
    }

    private static void fault(String text, int fault) {
        InnPurposes x = new InnPurposes();
        Due.is("house of " + text, Inns.build(x, text), -10 - fault);
    }

    private static void endsTooEarly(String text) {
        fault(text, text.length());
    }

    /** Whether E holds of guest 1 of six (kinds 0 to 5, v 4) and this purpose, by NIGHT 7. */
    private static void holds(String e, int purpose, boolean due) {
        InnPurposes x = Inns.ofSixKinds(0, 4, 0);
        x.pass(7);
        int before = x.of(1, 10 + purpose);
        Inns.build(x, "fancy 50 " + e);
        Due.is(e + " of " + purpose, x.of(1, 10 + purpose), before + (due ? 50 : 0));
    }

    @Says("THE TEXT, which is empty then, is a HOUSE, and holds: its number.")
    static void theTextIsEmptyBehindAHouseAndBehindAFault() {
        InnPurposes x = new InnPurposes();
        Due.is("a house", Inns.build(x, "keep 7"), 0);
        Due.is("THE TEXT is empty", x.count(5), 0);
        Due.is("a fault", Inns.build(x, "keep x"), -15);
        Due.is("THE TEXT is empty", x.count(5), 0);
        Due.is("the next house", Inns.build(x, "keep 8"), 1);
        Due.is("it holds", x.told(1), 8);
    }

    @Says({"FULL: there are 6 (THE TEXT stays)", "The newest HOUSE holds (6 at most)"})
    static void theSixthHouseStandsAndTheSeventhDoesNot() {
        InnPurposes x = new InnPurposes();
        for (int i = 0; i < 6; i++) {
            Due.is("house " + i, Inns.build(x, "keep " + (i + 1)), i);
            Due.is("it holds", x.told(1), i + 1);
        }
        Due.is("a seventh", Inns.build(x, "keep 9"), -4);
        Due.is("THE TEXT stays", x.count(5), 6);
        Due.is("the sixth holds", x.told(1), 6);
        Due.is("there are six", x.count(1), 6);
        Due.is("behind THE TEXT", x.feed('9'), 7);
    }

    @Says("the first that a call's words name")
    static void fullIsNamedAheadOfTheFault() {
        InnPurposes x = new InnPurposes();
        for (int i = 0; i < 6; i++) {
            x.house();
            Inns.build(x, "keep 1");
        }
        Due.is("an empty text", x.house(), -4);
        Due.is("a text with a fault", Inns.build(x, "?"), -4);
        Due.is("it stays", x.count(5), 1);
    }

    @Says("-10 less the FAULT (the one that held holds)")
    static void behindAFaultTheOneThatHeldHolds() {
        InnPurposes x = Inns.withOne(0, 0, 0);
        Due.is("a fault, none held", Inns.build(x, "fancy 9 x=0;keep 5;"), -29);
        Due.is("no keep", x.told(1), 3);
        Due.is("nothing sways", x.of(0, 10), 5);
        Inns.build(x, "fancy 7 x=0;keep 4");
        Due.is("a fault, one held", Inns.build(x, "fancy 9 x=0;keep 5;"), -29);
        Due.is("its keep", x.told(1), 4);
        Due.is("it sways", x.of(0, 10), 12);
        Due.is("there is one", x.count(1), 1);
    }

    @Says("The newest HOUSE holds")
    static void nothingOfATextWithAFaultHoldsInTheNextHouse() {
        InnPurposes x = Inns.withOne(0, 0, 0);
        Inns.build(x, "fancy 9 x=0;keep 8;fancy 9 x=0;?");
        Due.is("the next house", Inns.build(x, "leave 2 x=0"), 0);
        Due.is("keep", x.told(1), 3);
        Due.is("tempts of 0", x.of(0, 10), 3);
    }

    @Says("The newest HOUSE holds")
    static void nothingOfAnOlderHouseHolds() {
        InnPurposes x = Inns.withOne(0, 0, 0);
        Inns.build(x, "fancy 9 x=0;fancy 8 x=0;keep 5");
        Inns.build(x, "fancy 7 x=0");
        Due.is("keep", x.told(1), 3);
        Due.is("tempts of 0", x.of(0, 10), 12);
    }

    @Says("What is answered so changes nothing")
    static void aFullInnChangesNothingByAHouse() {
        Everything.stays("a seventh", -4, x -> {
            for (int i = 0; i < 6; i++) {
                x.house();
                Inns.build(x, "keep 6");
            }
            return 0;
        }, InnPurposes::house);
    }

    @Says("CLAUSES, 1 to 10, with ; between")
    static void clausesAre1To10() {
        fault("", 0);
        stands("keep 1");
        stands("keep 1;keep 1;keep 1;keep 1;keep 1;keep 1;keep 1;keep 1;keep 1;keep 1");
        fault("keep 1;keep 1;keep 1;keep 1;keep 1;keep 1;keep 1;keep 1;keep 1;keep 1;keep 1", 69);
        fault("keep 1;keep 1;keep 1;keep 1;keep 1;keep 1;keep 1;keep 1;keep 1;keep 1;", 69);
    }

    @Says("with ; between")
    static void thereIsASignBetweenClausesAndNoneElsewhere() {
        fault(";keep 1", 0);
        endsTooEarly("keep 1;");
        fault("keep 1;;keep 1", 7);
        fault("keep 1,keep 1", 6);
        fault("keep 1keep 1", 6);
        fault("keep 1 ;keep 1", 6);
        fault("keep 1; keep 1", 7);
        fault("fancy 1 (p=1;keep 1)", 12);
        stands("fancy 1 p=1;leave 1 p=1;keep 1;leave 1 p=1;fancy 1 p=1");
    }

    @Says("fancy n E; leave n E; keep n")
    static void thereAreThreeWords() {
        stands("fancy 1 p=1");
        stands("leave 1 p=1");
        stands("keep 1");
        endsTooEarly("fancy 1");
        endsTooEarly("leave 1 ");
        fault("keep 1 p=1", 6);
        fault("Fancy 1 p=1", 0);
        fault("fance 1 p=1", 4);
        fault("leake 1 p=1", 3);
        fault("keeq 1", 3);
        fault("lancy 1 p=1", 1);
    }

    @Says("(one blank ahead of each part behind the word;")
    static void thereIsJustOneBlank() {
        fault("keep1", 4);
        fault("keep  1", 5);
        fault("keep\t1", 4);
        fault(" keep 1", 0);
        fault("keep 1 ", 6);
        fault("fancy1 p=1", 5);
        fault("fancy  1 p=1", 6);
        fault("fancy 1p=1", 7);
        fault("fancy 1  p=1", 8);
        fault("fancy 1 p =1", 9);
        fault("fancy 1 p= 1", 10);
        fault("fancy 1 p=1 ", 11);
        fault("fancy 1 p=1 &p=1", 11);
        fault("fancy 1 ! p=1", 9);
        fault("fancy 1 ( p=1)", 9);
    }

    @Says("n 1 or 2 digits)")
    static void numbersOfClausesAre1Or2Digits() {
        endsTooEarly("keep ");
        stands("keep 0");
        stands("keep 9");
        stands("keep 00");
        stands("keep 99");
        fault("keep 100", 7);
        fault("keep -1", 5);
        fault("keep 1.", 6);
        fault("fancy  p=1", 6);
        stands("fancy 0 p=1");
        stands("fancy 99 p=1");
        fault("fancy 100 p=1", 8);
        stands("leave 99 p=1");
        fault("leave 000 p=1", 8);
    }

    @Says("n 1 or 2 digits)")
    static void digitsAre0To9Alone() {
        fault("keep /", 5);
        fault("keep :", 5);
        fault("keep 1/", 6);
        fault("keep 1:", 6);
        fault("fancy 1 p=/", 10);
        fault("fancy 1 p=:", 10);
    }

    @Says("n 1 or 2 digits)")
    static void twoDigitsAreTensAndOnes() {
        String[] numbers = {"0", "00", "9", "09", "10", "90", "99"};
        int[] due = {0, 0, 9, 9, 10, 90, 99};
        for (int i = 0; i < due.length; i++) {
            InnPurposes x = Inns.withOne(0, 0, 0);
            Inns.build(x, "fancy " + numbers[i] + " x=0;leave " + numbers[i] + " x=1;keep " + numbers[i]);
            Due.is("keep " + numbers[i], x.told(1), due[i]);
            Due.is("fancy " + numbers[i], x.of(0, 10), 5 + due[i]);
            Due.is("leave " + numbers[i], x.of(0, 11), 7 - due[i]);
        }
    }

    @Says("E: T or T|E. T: F or F&T. F: !F, (E), or a TEST:")
    static void expressionsMustBeWhole() {
        endsTooEarly("fancy 1 p=1|");
        endsTooEarly("fancy 1 p=1&");
        endsTooEarly("fancy 1 !");
        endsTooEarly("fancy 1 (");
        endsTooEarly("fancy 1 (p=1");
        fault("fancy 1 ()", 9);
        fault("fancy 1 p=1)", 11);
        fault("fancy 1 |p=1", 8);
        fault("fancy 1 &p=1", 8);
        fault("fancy 1 p=1||p=1", 12);
        fault("fancy 1 p=1&&p=1", 12);
        fault("fancy 1 p=1&|p=1", 12);
        fault("fancy 1 p=1!p=1", 11);
        fault("fancy 1 (p=1)(p=1)", 13);
        fault("fancy 1 (p=1)p=1", 13);
        fault("fancy 1 p=1(", 11);
        fault("fancy 1 p=1!", 11);
        fault("fancy 1 !)", 9);
        fault("fancy 1 !&p=1", 9);
        fault("fancy 1 !|p=1", 9);
        fault("fancy 1 !;keep 1", 9);
        fault("fancy 1 (&p=1)", 9);
        fault("fancy 1 ;keep 1", 8);
        fault("fancy 1 (p=1|)", 13);
        fault("fancy 1 p=1;fancy 1 p=1)", 23);
    }

    @Says("E: T or T|E. T: F or F&T. F: !F, (E)")
    static void signsBindByTheirOrder() {
        holds("x=1|x=2&x=3", 1, true);
        holds("x=1|x=2&x=3", 2, false);
        holds("x=3&x=2|x=1", 1, true);
        holds("(x=1|x=2)&x=3", 1, false);
        holds("x=3&(x=2|x=1)", 1, false);
        holds("!x=1|x=1", 1, true);
        holds("!(x=1|x=1)", 1, false);
        holds("!x=1&x=2", 2, true);
        holds("!x=2&x=1", 2, false);
        holds("!!x=2", 2, true);
        holds("!!!x=2", 2, false);
        holds("x=0|x=1|x=2|x=3", 3, true);
        holds("x=0|x=1|x=2|x=3", 4, false);
        holds("x>2&x<4&w=3&n=7", 3, true);
        holds("x>2&x<4&w=3&n=6", 3, false);
        holds("n=7&(x=3)", 3, true);
        holds("n=7&(x=3)", 4, false);
        holds("n=6|(x=3)", 3, true);
        holds("n=7&(x=3|x=4)", 4, true);
        holds("n=7&(x=3&w=3)", 3, true);
        holds("n=7&!(x=3)", 4, true);
        holds("n=7&!(x=3)", 3, false);
        holds("(x=3)&(n=7)", 3, true);
        holds("n=7&!p<0", 3, true);
        holds("n=7&p<0", 3, false);
    }

    @Says("a letter, < or = or >, a number (1 or 2 digits)")
    static void aTestIsALetterARelationAndANumber() {
        endsTooEarly("fancy 1 p");
        endsTooEarly("fancy 1 p<");
        for (char letter : "pkvxwn".toCharArray()) {
            for (char relation : "<=>".toCharArray()) {
                stands("leave 1 " + letter + relation + "0");
                stands("leave 1 " + letter + relation + "99");
                fault("leave 1 " + letter + relation + "100", 12);
            }
        }
        for (char other : "abcdefghijlmoqrstuyzPKVXWN07".toCharArray()) {
            fault("leave 1 " + other + "=1", 8);
        }
        for (char other : "!;?~0 p:/".toCharArray()) {
            fault("leave 1 p" + other + "1", 9);
        }
        fault("fancy 1 p<=1", 10);
        fault("fancy 1 p=p", 10);
        fault("fancy 1 1=p", 8);
        fault("fancy 1 =1", 8);
        fault("fancy 1 <1", 8);
        fault("fancy 1 >1", 8);
        fault("fancy 1 p1", 9);
    }

    @Says({"of a GUEST and a PURPOSE p the number of the one, k its KIND, v its v,",
        "x the number of the other, w its WEIGHT, n NIGHT modulo 10"})
    static void eachLetterIsHeldAgainstItsOwnNumber() {
        int[] is = {5, 1, 9, 11, 8, 2};
        for (int i = 0; i < is.length; i++) {
            for (int n = Math.max(0, is[i] - 1); n <= is[i] + 1; n++) {
                compares("pkvxwn".charAt(i), '<', n, is[i] < n);
                compares("pkvxwn".charAt(i), '=', n, is[i] == n);
                compares("pkvxwn".charAt(i), '>', n, is[i] > n);
            }
        }
    }

    private static void compares(char letter, char relation, int n, boolean due) {
        InnPurposes x = new InnPurposes();
        for (int g = 0; g < 6; g++) {
            x.guest(g == 5 ? 1 : 0, g == 5 ? 9 : 0, 0);
        }
        x.weight(11, 8);
        x.pass(12);
        Inns.build(x, "fancy 50 " + letter + relation + n);
        Due.is(letter + "" + relation + n, x.of(5, 21), due ? 71 : 21);
    }

    @Says("< or = or >")
    static void nothingIsBelow0AndNothingAbove99() {
        for (char letter : "pkvxwn".toCharArray()) {
            InnPurposes x = Inns.withOne(0, 0, 0);
            Inns.build(x, "fancy 50 " + letter + "<0;fancy 20 " + letter + ">99;fancy 9 " + letter + "<99");
            Due.is(letter + " of the first", x.of(0, 10), 14);
            Due.is(letter + " of the last", x.of(0, 21), 16);
        }
    }

    @Says("n NIGHT modulo 10")
    static void nightIsTakenModulo10() {
        InnPurposes x = Inns.withOne(0, 0, 0);
        Inns.build(x, "fancy 50 n=0;fancy 20 n=9;fancy 1 n=10");
        int[] nights = {0, 9, 10, 11, 19, 20};
        int[] due = {55, 25, 55, 5, 25, 55};
        for (int i = 0; i < nights.length; i++) {
            x.pass(nights[i] - x.told(0));
            Due.is("by night " + nights[i], x.of(0, 10), due[i]);
        }
    }

    @Says("A ( or ! within 4 others is none.")
    static void fourMayStandOneWithinAnother() {
        stands("fancy 1 ((((p=1))))");
        fault("fancy 1 (((((p=1)))))", 12);
        stands("fancy 1 !!!!p=1");
        fault("fancy 1 !!!!!p=1", 12);
        stands("fancy 1 (!(!p=1))");
        fault("fancy 1 (!(!(p=1)))", 12);
        fault("fancy 1 (!(!!p=1))", 12);
        fault("fancy 1 !(!((p=1)))", 12);
        fault("fancy 1 ((((!p=1))))", 12);
        fault("fancy 1 !!!!(p=1)", 12);
    }

    @Says("A ( or ! within 4 others is none.")
    static void whatIsClosedCountsNoMore() {
        stands("fancy 1 ((((p=1))))&((((p=2))))|!!!!p=3&!!!!p=4");
        stands("fancy 1 (((!p=1&!p=2|!p=3)&(p=4)))&(p=5)");
        stands("fancy 1 !(p=1)&!(p=1)&!(p=1)&!(p=1)&!(p=1)&!(p=1)");
        stands("fancy 1 !!!!p=1;leave 1 !!!!p=1");
        fault("fancy 1 p=1&(((!p=1&!(p=2))))", 21);
        fault("fancy 1 !!!p=1&!!!(!(p=1))", 19);
    }

    @Says("A ( or ! within 4 others is none.")
    static void fourWithinOneAnotherHoldAsWritten() {
        holds("((((x=3))))", 3, true);
        holds("((((x=3))))", 4, false);
        holds("!!!!x=3", 3, true);
        holds("!(!(x=3|x=4))", 4, true);
        holds("!(!(x=3|x=4))", 5, false);
        holds("(!(!x=3&!x=4))&n=7", 4, true);
    }

    @Says("The FAULT: the place of the first byte with which none begins so")
    static void aForeignByteIsTheFaultWhereverItStands() {
        for (int i = 0; i < LONG.length(); i++) {
            fault(LONG.substring(0, i) + "~" + LONG.substring(i + 1), i);
            fault(LONG.substring(0, i) + (char) 0, i);
        }
        stands(LONG);
    }

    @Says("(the end of THE TEXT, if it ends too early)")
    static void theEndIsTheFaultIfItComesTooEarly() {
        for (int i = 0; i < LONG.length(); i++) {
            String text = LONG.substring(0, i);
            boolean whole = text.endsWith("x=3))") || text.matches(".*p=1|.*k>0|.*(w>1|w>10|n=0|n=09|keep 9)");
            if (whole) {
                stands(text);
            } else {
                endsTooEarly(text);
            }
        }
    }

    @Says("(the end of THE TEXT, if it ends too early)")
    static void aTextOf100BytesMayStandOrEndTooEarly() {
        String most = "fancy 1 p=1|p=1|p=1|p=1|p=1|p=1|p=1|p=1|p=1|p=1|p=1|p=1|p=1|p=1|p=1|p=1|p=1|p=1|p=1|p=1|p=1|p=1|";
        Due.is("bytes but the last test", most.length(), 96);
        stands(most + "p=11");
        endsTooEarly(most + "p=1|");
        endsTooEarly(most + "(p=1");
        fault(most + "p=1)", 99);
    }
}
