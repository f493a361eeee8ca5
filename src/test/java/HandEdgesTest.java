/** Promises 18 to 24, sentence by sentence: what is done by hand. */
public final class HandEdgesTest extends Edges {
    private static final String MAKE = "To MAKE a DISH: neither it nor its partner in a PAIR STANDS, all that it (and its "
            + "partner) NEEDS STANDS, and what STANDS with it (and its partner) FITS: then they STAND, MADE; what they NEED "
            + "that is once is gone.";
    private static final String POUR = "To POUR a DISH over another one: it is poured, in no PAIR, does not STAND, all that "
            + "it NEEDS STANDS, the other one is one of these and MADE, and its pot is big enough as if it alone were "
            + "exchanged: what STANDS without the other one and with it FITS: the other one is gone, the DISH STANDS, what "
            + "it NEEDS that is once is gone.";
    private static final String WASH = "To WASH: a DISH that STANDS, MADE, is gone.";
    private static final String TRUST = "To TRUST a DISH: it does not STAND, and FITS with what does: it STANDS, TRUSTED.";
    private static final String SHOW = "To SHOW it: it is TRUSTED, all that it NEEDS STANDS: it is gone, and what it NEEDS "
            + "stays (once, too).";
    private static final String ONE_BY_ONE = "(A PAIR's DISHES are TRUSTED and SHOWN one by one. A TRUSTED one can be used "
            + "as if it were MADE.)";
    private static final String SPOILT = "a DISH that KEEPS k STEPS is SPOILT and gone at the end of the k-th STEP (that was "
            + "done) behind that in which it was MADE or POURED, if it STANDS since then; one that is TRUSTED is not.";
    private static final String EIGHT = "pots 1 1 1 1 1 1 1 1;";

    // ---- 18: make

    private static void make18WhatStandsThen() {
        sentence(18, "To MAKE a DISH: what STANDS then (1; 7).");
        kitchen(EIGHT + dishes(12));
        good(x.make(11), 2048);
        good(x.make(0), 2049);
        no(x.make(12), 1);
        no(x.make(-1), 1);
        told(2, 2049);
    }

    private static void make18ItStandsAlready() {
        sentence(18, MAKE);
        kitchen(EIGHT + "dish a work 1;dish b work 1;");
        x.make(0);
        no(x.make(0), 7);
        x.trust(1);
        no(x.make(1), 7);
        told(3, 2);
    }

    private static void make18ItsPartnerStands() {
        sentence(18, "neither it nor its partner in a PAIR STANDS");
        kitchen(EIGHT + "dish a work 1;dish b work 1;pair a b;");
        good(x.make(1), 3);
        x.wash(1);
        no(x.make(1), 7);
        x.wash(0);
        good(x.make(0), 3);
        x.empty();
        x.trust(0);
        no(x.make(1), 7);
        no(x.make(0), 7);
        good(x.show(0), 0);
        good(x.make(1), 3);
    }

    private static void make18WhatItNeedsStands() {
        sentence(18, "all that it (and its partner) NEEDS STANDS");
        kitchen(EIGHT + "dish a work 1;dish b work 1;dish c work 1 from a b;");
        no(x.make(2), 7);
        x.make(0);
        no(x.make(2), 7);
        x.wash(0);
        x.make(1);
        no(x.make(2), 7);
        x.make(0);
        good(x.make(2), 7);
    }

    private static void make18WhatItsPartnerNeedsStands() {
        sentence(18, "all that it (and its partner) NEEDS STANDS");
        kitchen(EIGHT + "dish a work 1;dish b work 1;dish c work 1 from a;dish d work 1 from b;pair c d;");
        x.make(0);
        no(x.make(2), 7);
        no(x.make(3), 7);
        x.wash(0);
        x.make(1);
        no(x.make(2), 7);
        no(x.make(3), 7);
        x.make(0);
        good(x.make(3), 15);
    }

    private static void make18WithAsManyNeedsAsFit() {
        sentence(18, "all that it (and its partner) NEEDS STANDS");
        kitchen("pots 1 1 1 1 1 1 1 1;" + dishes(8) + "dish z work 1 from aa ba ca da ea fa ga;");
        for (int d = 0; d < 6; d++) {
            x.make(d);
        }
        no(x.make(8), 7);
        x.make(6);
        good(x.make(8), 127 + 256);
        no(x.make(7), 7);
    }

    private static void make18TheLastPotAndNoneLeft() {
        sentence(18, "and what STANDS with it (and its partner) FITS");
        kitchen("pots 1 1;dish a work 1;dish b work 1;dish c work 1;");
        good(x.make(0), 1);
        good(x.make(1), 3);
        no(x.make(2), 7);
        x.wash(0);
        good(x.make(2), 6);
    }

    private static void make18NoPotsAtAll() {
        sentence(18, "and what STANDS with it (and its partner) FITS");
        kitchen("dish a work 1;");
        no(x.make(0), 7);
        told(5, 0);
    }

    private static void make18BothPartnersFit() {
        sentence(18, "and what STANDS with it (and its partner) FITS");
        kitchen("pots 1 1;dish a work 1;dish b work 1;pair a b;dish c work 1;");
        x.make(2);
        no(x.make(0), 7);
        x.wash(2);
        good(x.make(0), 3);
        kitchen("pots 9;dish a work 1;dish b work 1;pair a b;");
        no(x.make(0), 7);
        kitchen("pots 1 1;dish a work 1;dish b work 1 size 2;pair a b;");
        no(x.make(0), 7);
    }

    private static void make18AsIfAllWereExchanged() {
        sentence(18, "(which stands in which does not matter)");
        kitchen("pots 2 1;dish a work 1;dish b work 1 size 2;dish c work 1 size 2;");
        good(x.make(0), 1);
        good(x.make(1), 3);
        no(x.make(2), 7);
    }

    private static void make18FitsIsAskedAheadOfWhatGoes() {
        sentence(18, MAKE);
        kitchen("pots 1;dish a work 1 once;dish b work 1 from a;");
        x.make(0);
        no(x.make(1), 7);
        told(2, 1);
        kitchen("pots 1 1;dish a work 1 once;dish b work 1 from a;");
        x.make(0);
        good(x.make(1), 2);
    }

    private static void make18WhatIsOnceIsGone() {
        sentence(18, "what they NEED that is once is gone.");
        kitchen(EIGHT + "dish a work 1 once;dish b work 1;dish c work 1 once;dish d work 1 once;dish e work 1 from a b;"
            + "dish f work 1 from c;pair e f;dish g work 1 from e once;");
        for (int d = 0; d < 4; d++) {
            x.make(d);
        }
        good(x.make(4), 2 + 8 + 16 + 32);
        good(x.make(6), 2 + 8 + 16 + 32 + 64);
    }

    private static void make18ATrustedOneThatIsOnceIsGone() {
        sentence(18, ONE_BY_ONE);
        kitchen(EIGHT + "dish a work 1 once;dish b work 1;dish c work 1 from a b;");
        x.trust(0);
        x.trust(1);
        good(x.make(2), 6);
        told(3, 2);
    }

    private static void make18RefusedIsNoStep() {
        sentence(18, "With another STATUS than 0 a call gives NONE, or false, and changes nothing else");
        kitchen("pots 1;dish a work 5 keeps 1;dish b work 7;");
        x.make(0);
        for (int i = 0; i < 5; i++) {
            no(x.make(1), 7);
            no(x.make(2), 1);
        }
        told(2, 1);
        told(4, 5);
        told(5, 1);
        good(x.keeps(0), 1);
    }

    private static void make18TheWorkOfAPair() {
        sentence(18, "WORK: of a DISH that is MADE or POURED its own (of a PAIR the greater one); 0 for all else.");
        kitchen(EIGHT + "dish a work 99;dish b work 0;pair a b;dish c work 0;dish d work 98;pair c d;dish e work 0;");
        x.make(1);
        told(4, 99);
        x.make(2);
        told(4, 197);
        x.make(4);
        told(4, 197);
        told(5, 3);
    }

    // ---- 19: pourOver

    private static final String POURS = EIGHT + "dish a work 1;dish b work 1;dish c work 7 from a b poured;"
            + "dish d work 1 from a b;dish e work 1 from a poured;dish f work 1;pair e f;";

    private static void pourOver19TheOtherIsGone() {
        sentence(19, "To POUR a DISH over another one (1; 7).");
        kitchen(POURS);
        x.make(0);
        x.make(1);
        good(x.pourOver(2, 1), 5);
        told(3, 0);
        x.wash(2);
        x.make(1);
        good(x.pourOver(2, 0), 6);
    }

    private static void pourOver19NotPoured() {
        sentence(19, POUR);
        kitchen(POURS);
        x.make(0);
        x.make(1);
        no(x.pourOver(3, 0), 7);
        good(x.make(3), 11);
    }

    private static void pourOver19InAPair() {
        sentence(19, "it is poured, in no PAIR");
        kitchen(POURS);
        x.make(0);
        no(x.pourOver(4, 0), 7);
        good(x.make(4), 1 + 16 + 32);
    }

    private static void pourOver19ItStandsAlready() {
        sentence(19, "does not STAND");
        kitchen(POURS);
        x.make(0);
        x.make(1);
        x.make(2);
        no(x.pourOver(2, 0), 7);
        x.wash(2);
        x.trust(2);
        no(x.pourOver(2, 0), 7);
        told(2, 7);
    }

    private static void pourOver19ANeedIsMissing() {
        sentence(19, "all that it NEEDS STANDS");
        kitchen(POURS);
        x.make(0);
        no(x.pourOver(2, 0), 7);
        no(x.pourOver(2, 1), 7);
        x.wash(0);
        x.make(1);
        no(x.pourOver(2, 1), 7);
    }

    private static void pourOver19NoneOfItsNeeds() {
        sentence(19, "the other one is one of these and MADE");
        kitchen(POURS);
        x.make(0);
        x.make(1);
        x.make(3);
        no(x.pourOver(2, 3), 7);
        no(x.pourOver(2, 2), 7);
        no(x.pourOver(2, 5), 7);
        told(2, 11);
    }

    private static void pourOver19OverATrustedOne() {
        sentence(19, "the other one is one of these and MADE");
        kitchen(POURS);
        x.make(0);
        x.trust(1);
        no(x.pourOver(2, 1), 7);
        good(x.pourOver(2, 0), 6);
        told(3, 2);
    }

    private static void pourOver19ThePotIsBigEnough() {
        sentence(19, "its pot is big enough as if it alone were exchanged: what STANDS without the other one and with it "
                + "FITS");
        for (int pot = 1; pot <= 9; pot++) {
            kitchen("pots " + pot + ";dish a work 1;dish b work 1 size 5 from a poured;");
            x.make(0);
            if (pot >= 5) {
                good(x.pourOver(1, 0), 2);
            } else {
                no(x.pourOver(1, 0), 7);
                told(2, 1);
            }
        }
    }

    private static void pourOver19AnotherBigPotIsFree() {
        sentence(19, "what STANDS without the other one and with it FITS");
        kitchen("pots 1 5;dish a work 1;dish b work 1 size 5 from a poured;dish c work 1 size 5;dish d work 1;");
        x.make(0);
        good(x.pourOver(1, 0), 2);
        x.empty();
        x.make(0);
        x.make(2);
        no(x.pourOver(1, 0), 7);
        x.wash(2);
        x.make(3);
        good(x.pourOver(1, 0), 10);
    }

    private static void pourOver19OverOneOfAPair() {
        sentence(19, "it is poured, in no PAIR");
        kitchen(EIGHT + "dish a work 1;dish b work 1;pair a b;dish c work 1 from a poured;");
        x.make(0);
        good(x.pourOver(2, 0), 6);
    }

    private static void pourOver19InAFullKitchen() {
        sentence(19, "the other one is gone, the DISH STANDS");
        kitchen("pots 1 1;dish a work 1;dish b work 1;dish c work 1 from a b poured;");
        x.make(0);
        x.make(1);
        no(x.make(2), 7);
        good(x.pourOver(2, 0), 6);
    }

    private static void pourOver19WhatIsOnceIsGone() {
        sentence(19, "what it NEEDS that is once is gone.");
        kitchen(EIGHT + "dish a work 1 once;dish b work 1;dish c work 1 once;dish d work 1 once;"
            + "dish e work 1 from a b c poured once;");
        for (int d = 0; d < 4; d++) {
            x.make(d);
        }
        good(x.pourOver(4, 0), 2 + 8 + 16);
        x.wash(4);
        x.make(0);
        x.trust(2);
        good(x.pourOver(4, 1), 8 + 16);
        told(3, 0);
    }

    private static void pourOver19NoSuchDish() {
        sentence(19, "(1; 7)");
        kitchen(POURS);
        no(x.pourOver(6, 0), 1);
        no(x.pourOver(-1, 0), 1);
        no(x.pourOver(2, 6), 1);
        no(x.pourOver(2, -1), 1);
        no(x.pourOver(6, 6), 1);
        x.make(0);
        x.make(1);
        no(x.pourOver(2, 6), 1);
    }

    private static void pourOver19ItsWorkAndItsStep() {
        sentence(19, "WORK: of a DISH that is MADE or POURED its own");
        kitchen(POURS);
        x.make(0);
        x.make(1);
        x.pourOver(2, 0);
        told(4, 9);
        told(5, 3);
        no(x.pourOver(2, 1), 7);
        told(4, 9);
        told(5, 3);
    }

    // ---- 20: wash

    private static void wash20OneThatStandsMade() {
        sentence(20, WASH);
        kitchen(EIGHT + dishes(12));
        x.make(11);
        x.make(0);
        good(x.wash(11), 1);
        good(x.wash(0), 0);
        no(x.wash(0), 7);
        no(x.wash(5), 7);
    }

    private static void wash20ATrustedOneIsNotWashed() {
        sentence(20, "a DISH that STANDS, MADE, is gone.");
        kitchen(EIGHT + "dish a work 1;");
        x.trust(0);
        no(x.wash(0), 7);
        told(2, 1);
        told(3, 1);
        told(5, 1);
    }

    private static void wash20OfAPairTheOne() {
        sentence(20, "To WASH (1; 7).");
        kitchen(EIGHT + "dish a work 3;dish b work 1;pair a b;");
        x.make(0);
        good(x.wash(1), 1);
        no(x.wash(1), 7);
        told(4, 3);
        told(5, 2);
        no(x.wash(2), 1);
        no(x.wash(-1), 1);
    }

    private static void wash20WhatNeedsItStays() {
        sentence(20, WASH);
        kitchen(EIGHT + "dish a work 3;dish b work 1 from a;");
        x.make(0);
        x.make(1);
        good(x.wash(0), 2);
    }

    // ---- 21: trust

    private static void trust21ItStandsAlready() {
        sentence(21, TRUST);
        kitchen(EIGHT + "dish a work 1;dish b work 1;");
        x.make(0);
        no(x.trust(0), 7);
        told(3, 0);
        good(x.trust(1), 3);
        no(x.trust(1), 7);
        told(3, 2);
    }

    private static void trust21TheLastPotAndNoneLeft() {
        sentence(21, "it does not STAND, and FITS with what does");
        kitchen("pots 1 2;dish a work 1;dish b work 1 size 2;dish c work 1 size 3;dish d work 1;");
        no(x.trust(2), 7);
        good(x.trust(0), 1);
        good(x.trust(1), 3);
        no(x.trust(3), 7);
        kitchen("dish a work 1;");
        no(x.trust(0), 7);
        told(5, 0);
    }

    private static void trust21WithoutWhatItNeeds() {
        sentence(21, "To TRUST (1; 7).");
        kitchen(EIGHT + "dish a work 1 once;dish b work 1 from a;");
        good(x.trust(1), 2);
        good(x.make(0), 3);
        no(x.trust(2), 1);
        no(x.trust(-1), 1);
        told(4, 1);
        told(5, 2);
    }

    private static void trust21OfAPairTheOne() {
        sentence(21, "(A PAIR's DISHES are TRUSTED and SHOWN one by one.");
        kitchen("pots 1;dish a work 1;dish b work 1;pair a b;");
        good(x.trust(0), 1);
        no(x.trust(1), 7);
        kitchen("pots 1 1;dish a work 1;dish b work 1;pair a b;");
        good(x.trust(1), 2);
        good(x.trust(0), 3);
        kitchen("pots 1 1;dish a work 1;dish b work 1;pair a b;");
        x.make(0);
        x.wash(0);
        good(x.trust(0), 3);
        told(3, 1);
    }

    // ---- 22: show

    private static void show22OnlyATrustedOne() {
        sentence(22, SHOW);
        kitchen(EIGHT + "dish a work 1;");
        no(x.show(0), 7);
        x.make(0);
        no(x.show(0), 7);
        x.wash(0);
        x.trust(0);
        good(x.show(0), 0);
        no(x.show(0), 7);
        no(x.show(1), 1);
        no(x.show(-1), 1);
    }

    private static void show22AllThatItNeedsStands() {
        sentence(22, "it is TRUSTED, all that it NEEDS STANDS");
        kitchen(EIGHT + "dish a work 1;dish b work 1;dish c work 1 from a b;");
        x.trust(2);
        no(x.show(2), 7);
        x.make(0);
        no(x.show(2), 7);
        x.trust(1);
        good(x.show(2), 3);
        told(3, 2);
    }

    private static void show22WhatItNeedsStays() {
        sentence(22, "it is gone, and what it NEEDS stays (once, too).");
        kitchen(EIGHT + "dish a work 1 once;dish b work 1 once;dish c work 1 from a b once;");
        x.trust(2);
        x.make(0);
        x.trust(1);
        good(x.show(2), 3);
        told(3, 2);
        told(4, 1);
        told(5, 4);
    }

    private static void show22OfAPairTheOne() {
        sentence(22, ONE_BY_ONE);
        kitchen(EIGHT + "dish a work 1;dish b work 1;dish c work 1 from a;dish d work 1 from b;pair c d;");
        x.trust(2);
        x.trust(3);
        x.make(0);
        no(x.show(3), 7);
        good(x.show(2), 9);
        no(x.show(3), 7);
        x.make(1);
        good(x.show(3), 3);
    }

    private static void show22InAFullKitchen() {
        sentence(22, "To SHOW (1; 7).");
        kitchen("pots 1 1;dish a work 1;dish b work 1 from a;");
        x.trust(1);
        x.make(0);
        good(x.show(1), 1);
        good(x.make(1), 3);
    }

    // ---- 23: keeps

    private static void keeps23NothingBurnsByHand() {
        sentence(23, "DONE BY HAND nothing burns");
        kitchen("pots 1 1;dish a work 1 burns 15;dish b work 1 burns 15 from a poured;");
        for (int i = 0; i < 40; i++) {
            good(x.make(0), 1);
            good(x.pourOver(1, 0), 2);
            good(x.wash(1), 0);
        }
    }

    private static void keeps23ItDoesNotStand() {
        sentence(23, "How many STEPS more a DISH that STANDS KEEPS (1; 6: it does not STAND; 0 with STATUS 0: for ever).");
        kitchen(EIGHT + "dish a work 1 keeps 3;dish b work 1;");
        no(x.keeps(0), 6);
        no(x.keeps(1), 6);
        x.make(0);
        x.make(1);
        good(x.keeps(0), 2);
        good(x.keeps(1), 0);
        x.wash(0);
        no(x.keeps(0), 6);
        no(x.keeps(2), 1);
        no(x.keeps(-1), 1);
    }

    private static void keeps23OneStep() {
        sentence(23, SPOILT);
        kitchen(EIGHT + "dish a work 1 keeps 1;dish b work 1 from a;dish c work 1;");
        good(x.make(0), 1);
        good(x.keeps(0), 1);
        good(x.make(1), 2);
        no(x.keeps(0), 6);
        x.make(0);
        good(x.make(2), 6);
        no(x.wash(0), 7);
    }

    private static void keeps23NinetyNineSteps() {
        sentence(23, "how long it KEEPS (1 to 99 STEPS; without: for ever)");
        kitchen(EIGHT + "dish a work 1 keeps 99;dish b work 1;");
        x.make(0);
        for (int i = 0; i < 98; i++) {
            good(x.keeps(0), 99 - i);
            due(i % 2 == 0 ? x.make(1) : x.wash(1), i % 2 == 0 ? 3 : 1);
        }
        good(x.keeps(0), 1);
        good(x.make(1), 2);
        no(x.keeps(0), 6);
        told(5, 100);
    }

    private static void keeps23ForEver() {
        sentence(23, "0 with STATUS 0: for ever");
        kitchen(EIGHT + "dish a work 1;dish b work 1;");
        x.make(0);
        for (int i = 0; i < 110; i++) {
            due(x.make(1), 3);
            due(x.wash(1), 1);
        }
        good(x.keeps(0), 0);
        told(2, 1);
    }

    private static void keeps23EachKindOfStepAges() {
        sentence(23, "at the end of the k-th STEP (that was done)");
        kitchen(EIGHT + "dish a work 1 keeps 6;dish b work 1;dish c work 1 from b poured;");
        x.make(0);
        x.make(1);
        good(x.keeps(0), 5);
        x.pourOver(2, 1);
        good(x.keeps(0), 4);
        x.wash(2);
        good(x.keeps(0), 3);
        x.trust(1);
        good(x.keeps(0), 2);
        x.show(1);
        good(x.keeps(0), 1);
        x.trust(1);
        told(2, 2);
    }

    private static void keeps23WhatWasNotDoneDoesNotAge() {
        sentence(23, "(that was done)");
        kitchen("pots 1;dish a work 1 keeps 2;dish b work 1;dish c work 1 from a;");
        x.make(0);
        no(x.make(0), 7);
        no(x.make(1), 7);
        no(x.pourOver(2, 0), 7);
        no(x.wash(1), 7);
        no(x.trust(1), 7);
        no(x.show(0), 7);
        no(x.make(9), 1);
        x.keeps(0);
        x.work(1);
        x.fits(1);
        good(x.keeps(0), 2);
        told(5, 1);
    }

    private static void keeps23FromTheLatestMaking() {
        sentence(23, "if it STANDS since then");
        kitchen(EIGHT + "dish a work 1 keeps 3;dish b work 1;");
        x.make(0);
        x.make(1);
        x.wash(0);
        good(x.make(0), 3);
        good(x.keeps(0), 3);
        good(x.wash(1), 1);
        good(x.make(1), 3);
        good(x.wash(1), 0);
    }

    private static void keeps23FromThePour() {
        sentence(23, "behind that in which it was MADE or POURED");
        kitchen(EIGHT + "dish a work 1;dish b work 1 keeps 2 from a poured;dish c work 1;");
        x.make(0);
        good(x.pourOver(1, 0), 2);
        good(x.keeps(1), 2);
        good(x.make(2), 6);
        good(x.keeps(1), 1);
        good(x.wash(2), 0);
    }

    private static void keeps23ATrustedOneIsNotSpoilt() {
        sentence(23, "one that is TRUSTED is not.");
        kitchen(EIGHT + "dish a work 1 keeps 1;dish b work 1;");
        x.make(0);
        x.wash(0);
        x.trust(0);
        good(x.keeps(0), 0);
        for (int i = 0; i < 5; i++) {
            x.make(1);
            x.wash(1);
        }
        good(x.keeps(0), 0);
        told(2, 1);
        told(3, 1);
    }

    private static void keeps23UsedInItsLastStep() {
        sentence(23, SPOILT);
        kitchen("pots 1 1;dish a work 1 keeps 1;dish b work 1 from a;dish c work 1 from a poured;dish d work 1;");
        x.make(0);
        good(x.make(1), 2);
        x.empty();
        x.make(0);
        good(x.pourOver(2, 0), 4);
        x.empty();
        x.make(0);
        good(x.make(3), 8);
        no(x.make(1), 7);
    }

    private static void keeps23ThePotIsFreeBehindIt() {
        sentence(23, "is SPOILT and gone at the end of the k-th STEP");
        kitchen("pots 1 1;dish a work 1 keeps 1;dish b work 1;dish c work 1;");
        x.make(0);
        good(x.make(1), 2);
        good(x.make(2), 6);
    }

    private static void keeps23SeveralAtOnceAndOneOfAPair() {
        sentence(23, SPOILT);
        kitchen(EIGHT + "dish a work 1 keeps 3;dish b work 1 keeps 2;dish c work 1 keeps 2;dish d work 1;pair c d;"
            + "dish e work 1;");
        x.make(0);
        x.make(1);
        good(x.make(2), 15);
        good(x.make(4), 8 + 16 + 4);
        good(x.wash(4), 8);
    }

    private static void keeps23WhatIsMadeOfItStays() {
        sentence(23, "is SPOILT and gone");
        kitchen(EIGHT + "dish a work 1 keeps 1;dish b work 1 from a;");
        x.make(0);
        x.make(1);
        told(2, 2);
        told(4, 2);
        told(5, 2);
    }

    // ---- 24: empty

    private static void empty24NothingStandsOrIsDone() {
        sentence(24, "Nothing STANDS, no WORK, STEPS are done.");
        kitchen("pots 1 1 1;dish a work 5 keeps 2;dish b work 1;dish c work 1;");
        x.make(0);
        x.trust(1);
        yes(x.empty());
        for (int what = 2; what <= 5; what++) {
            told(what, 0);
        }
        no(x.keeps(0), 6);
        yes(x.empty());
        good(x.make(0), 1);
        good(x.keeps(0), 2);
        told(5, 1);
    }

    private static void empty24AllElseStays() {
        sentence(24, "Nothing STANDS, no WORK, STEPS are done.");
        kitchen("pots 1 1;dish a work 5;");
        planned("make a;");
        x.cook(NONE);
        x.first(1);
        x.mark();
        yes(x.empty());
        told(0, 1);
        told(1, 2);
        good(x.cooked(0), 5);
        good(x.firstAt(0, 1), 0);
        good(x.cook(NONE), 1);
        good(x.back(), 0);
    }

    private static void empty24OfANewObject() {
        sentence(24, "Nothing STANDS, no WORK, STEPS are done.");
        yes(x.empty());
        told(2, 0);
    }

    public static void main(String[] args) throws IllegalAccessException {
        runAll(HandEdgesTest.class);
    }
}
