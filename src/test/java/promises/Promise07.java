/** Promise 7: redeem. */
final class Promise07 {
    private Promise07() {
    }

    /** Two guests who lost all, and a cellar in which purposes 0 and 11 lie once. */
    private static InnPurposes withCellar() {
        InnPurposes x = Inns.withHouse("keep 0");
        x.guest(0, 0, 1);
        x.guest(0, 0, 2048);
        x.pass(1);
        x.set(0, 1, 4095);
        x.set(1, 1, 4095);
        return x;
    }

    @Says("A GUEST has a PURPOSE back from CELLAR: how often that lies there then.")
    static void aPurposeComesBackFromTheCellar() {
        InnPurposes x = Inns.withHouse("keep 0");
        for (int g = 0; g < 6; g++) {
            x.guest(0, 0, 1);
        }
        x.pass(1);
        for (int g = 0; g < 6; g++) {
            Due.is("how often it lies there then", x.redeem(g, 0), 5 - g);
            Due.is("as it is told", x.told(10), 5 - g);
        }
    }

    @Says("how often that lies there then")
    static void of99One98Lie() {
        InnPurposes x = Inns.withHouse("keep 0");
        for (int g = 0; g < 6; g++) {
            x.guest(0, 0, 1);
        }
        for (int i = 0; i < 17; i++) {
            x.pass(1);
            for (int g = 0; g < 6; g++) {
                x.set(g, 0, 1);
            }
        }
        x.set(0, 0, 0);
        Due.is("99 lie there", x.told(10), 99);
        Due.is("then 98", x.redeem(0, 0), 98);
    }

    @Says("It MEANS it then, and it is LOST no more")
    static void itMeansItAndHasNotLostIt() {
        InnPurposes x = withCellar();
        x.redeem(0, 11);
        Due.is("means", x.of(0, 2), 2048);
        Due.is("lost", x.of(0, 3), 2047);
        x.redeem(0, 0);
        Due.is("means both", x.of(0, 2), 2049);
        Due.is("lost neither", x.of(0, 3), 2046);
        Due.is("the other one has nothing back", x.of(1, 2), 0);
        Due.is("the other one's loss stays", x.of(1, 3), 4095);
    }

    @Says("STATE: it did not lose it, means it, or it does not lie there")
    static void itMustHaveLostIt() {
        InnPurposes x = withCellar();
        x.set(0, 1, 4094);
        Due.is("not lost", x.redeem(0, 0), -3);
        x.set(0, 1, 1);
        Due.is("lost", x.redeem(0, 0), 0);
    }

    @Says("means it, or it does not lie there")
    static void itMustNotMeanIt() {
        InnPurposes x = withCellar();
        x.set(0, 0, 1);
        Due.is("lost, and means it", x.redeem(0, 0), -3);
        x.set(0, 0, 4094);
        Due.is("means all the others", x.redeem(0, 0), 0);
    }

    @Says("or it does not lie there")
    static void itMustLieThere() {
        InnPurposes x = withCellar();
        Due.is("lies there no time", x.redeem(0, 5), -3);
        Due.is("lies there once", x.redeem(0, 0), 0);
        Due.is("lies there no more", x.redeem(1, 0), -3);
    }

    @Says("A GUEST has a PURPOSE back from CELLAR")
    static void oneThatIsNotInAndSomeoneElsesToo() {
        InnPurposes x = withCellar();
        x.stay(0, false);
        Due.is("what the other one left", x.redeem(0, 11), 0);
    }

    @Says({"how often that lies there then. NONE;", "PURPOSES 0 .. 11"})
    static void guestAndPurposeMustBeThere() {
        InnPurposes x = withCellar();
        Due.is("guest -1", x.redeem(-1, 0), -1);
        Due.is("guest 2", x.redeem(2, 0), -1);
        Due.is("guest 6", x.redeem(6, 0), -1);
        Due.is("purpose -1", x.redeem(0, -1), -1);
        Due.is("purpose 12", x.redeem(0, 12), -1);
        Due.is("purpose 32, which is 0 modulo 32", x.redeem(0, 32), -1);
        Due.is("purpose 11", x.redeem(0, 11), 0);
        Due.is("purpose 0", x.redeem(0, 0), 0);
    }

    @Says("What is answered so changes nothing")
    static void aRefusedRedeemChangesNothing() {
        Everything.stays("guest 3", -1, x -> x.redeem(3, 9));
        Everything.stays("purpose 12", -1, x -> x.redeem(0, 12));
        Everything.stays("not lost", -3, x -> x.set(0, 1, 0), x -> x.redeem(0, 9));
        Everything.stays("means it", -3, x -> x.set(0, 1, 4095) + x.set(0, 0, 4095), x -> x.redeem(0, 8));
        Everything.stays("does not lie there", -3, x -> x.set(0, 1, 4095) + x.set(0, 0, 0), x -> x.redeem(0, 1));
    }
}
