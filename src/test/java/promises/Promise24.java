/** Promise 24: looked. */
final class Promise24 {
    private Promise24() {
    }

    @Says({"LOOKED at: the number of the first of these rows by which it lies in CELLAR otherwise now", "LOOKED at; -5"})
    static void theFirstRowThatIsOtherwiseIsTold() {
        for (int first = 0; first < 8; first++) {
            InnPurposes x = new InnPurposes();
            for (int i = 0; i < 8; i++) {
                x.book(11 - i, i < first ? 0 : i == first ? 1 : 99);
            }
            Due.is("the first otherwise", x.looked(), first);
        }
    }

    @Says("otherwise now (-5: none).")
    static void noRowMayBeOtherwise() {
        InnPurposes x = new InnPurposes();
        Due.is("an empty book", x.looked(), -5);
        for (int i = 0; i < 8; i++) {
            x.book(i + 4, 0);
        }
        Due.is("eight rows that are so", x.looked(), -5);
    }

    @Says("by which it lies in CELLAR otherwise now")
    static void moreAndLessAreOtherwise() {
        InnPurposes x = Inns.withHouse("keep 0");
        x.guest(0, 0, 2048);
        x.guest(0, 0, 2048);
        x.book(11, 2);
        Due.is("two in the book, none there", x.looked(), 0);
        x.pass(1);
        Due.is("two in the book, two there", x.looked(), -5);
        x.book(11, 1);
        Due.is("one in the book, two there", x.looked(), 1);
        x.redeem(0, 11);
        Due.is("two in the book, one there", x.looked(), 0);
    }

    @Says("what is asked changes nothing")
    static void askingChangesNothing() {
        Everything.stays("looked", Everything.inn().looked(), x -> x.looked());
    }
}
