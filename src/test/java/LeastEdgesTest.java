/** Promises 25 to 36, sentence by sentence: the fewest and the least. */
public final class LeastEdgesTest extends Edges {
    private static final String FROM_NOTHING = "From nothing that STANDS, by MAKING, POURING, WASHING alone (how long "
            + "something KEEPS, and burning, are not asked), to a GOAL, a set of DISHES that are to STAND at one time: "
            + "LEAST WORK with the kitchen's POTS; LEAST STEPS.";
    private static final String FIRST = "FIRST of a LEAST WORK: STEPS one by one, of all that come to as much WORK, and "
            + "then to as few STEPS, the first: to MAKE the DISHES by number, then to POUR by number, over the others by "
            + "number, then to WASH by number.";
    private static final String TRUSTFUL = "TRUSTFUL: FEWEST POTS of size 9 if DISHES may be TRUSTED and SHOWN, too, and "
            + "behind it all nothing that is TRUSTED STANDS: for a GOAL with which at most 8 DISHES are NEEDED together "
            + "(with itself, and partners); no others are MADE, POURED or TRUSTED.";
    private static final String BOUND = "BOUND of a GOAL: the greatest of: how many it has; of each DISH that is NEEDED for "
            + "it how many it NEEDS and one more (not one more, if it is poured).";
    private static final String TREE = "TREE RULE of a DISH: 1 if it NEEDS nothing; else the greatest of: how many it NEEDS "
            + "and one more (not one more, if it is poured); of those that it NEEDS by their own numbers, the greatest "
            + "ahead: the first's, the second's and 1, the third's and 2 ..";
    private static final String NO_TREE = "It can't be asked where a DISH that is NEEDED for it is in a PAIR, is once, or is "
            + "NEEDED by two of these.";
    private static final String ROUNDS = "ROUNDS of so many cooks (1 to 4) with the kitchen's POTS: in a ROUND at most so "
            + "many DISHES that do not STAND, and in no PAIR, are MADE at once: all that each NEEDS STANDS ahead of it, and "
            + "all FITS together; then what they NEED that is once is gone; between ROUNDS as much is WASHED as one likes; "
            + "a GOAL is reached that has a DISH in a PAIR never: the fewest ROUNDS till it STANDS.";

    private static final String EIGHT = "pots 1 1 1 1 1 1 1 1;";
    /** With 3 POTS a must be made twice for e, with 4 once. */
    private static final String TWICE = "dish a work 5;dish b work 1 from a;dish c work 1;dish d work 1 from b c;"
            + "dish e work 1 from d a;";
    /** The same with 8 POTS and 9. */
    private static final String TWICE_IN_EIGHT = "dish a work 5;dish b work 1 from a;dish c work 1;dish f work 1;"
            + "dish g work 1;dish h work 1;dish i work 1;dish j work 1;dish d work 1 from b c f g h i j;"
            + "dish e work 1 from d a;";
    /** Only z can ever be made: x is NEEDED for p, p's partner q NEEDS y, and x's partner is y. */
    private static final String NEVER = "pots 1 1 1 1 1 1;dish y work 1;dish q work 1 from y;dish p work 1;pair p q;"
            + "dish x work 1 from p;pair x y;dish z work 1;";
    /** To make g uses up t, to make t uses up g: both can never STAND, MADE. */
    private static final String EITHER = EIGHT + "dish g work 1 once;dish t work 1 once;dish h work 1 from t;"
            + "dish u work 1 from g;pair g h;pair t u;";

    /** Each is once and needs all ahead of it: what STANDS counts upwards, from set to set by one. */
    private static String counter(int many, int work) {
        StringBuilder s = new StringBuilder();
        StringBuilder ahead = new StringBuilder();
        for (int d = 0; d < many; d++) {
            s.append("dish ").append((char) ('a' + d)).append(" work ").append(work);
            s.append(d == 0 ? "" : " from" + ahead).append(" once;");
            ahead.append(' ').append((char) ('a' + d));
        }
        return s.toString();
    }

    // ---- 25: work

    private static void work25ToNothing() {
        sentence(25, "LEAST WORK to a GOAL (1; 6: it can't be).");
        good(x.work(0), 0);
        no(x.work(1), 1);
        kitchen("dish a work 5;");
        good(x.work(0), 0);
        no(x.work(1), 6);
        no(x.work(2), 1);
        no(x.work(-1), 1);
    }

    private static void work25WithoutWork() {
        sentence(25, "LEAST WORK to a GOAL (1; 6: it can't be).");
        kitchen("pots 1 1;dish a work 0;dish b work 0 from a;");
        good(x.work(2), 0);
        good(x.work(3), 0);
    }

    private static void work25ALongChain() {
        sentence(25, FROM_NOTHING);
        kitchen("pots 1 1;" + chain(12, 99));
        good(x.work(2048), 1188);
        good(x.work(1024 + 2048), 1188);
        good(x.work(1 + 2048), 1287);
        no(x.work(1 + 2 + 2048), 6);
        kitchen("pots 9;" + chain(2, 99));
        good(x.work(1), 99);
        no(x.work(2), 6);
    }

    private static void work25WhateverStandsByHand() {
        sentence(25, "From nothing that STANDS");
        kitchen("pots 1 1 1;" + TWICE);
        x.make(0);
        x.trust(3);
        good(x.work(16), 14);
        good(x.work(1), 5);
    }

    private static void work25NothingIsTrusted() {
        sentence(25, "by MAKING, POURING, WASHING alone");
        kitchen(NEVER);
        no(x.work(1), 6);
        no(x.work(8), 6);
        good(x.work(16), 1);
        good(x.trustful(1), 3);
        kitchen(EITHER);
        no(x.work(1), 6);
        no(x.work(3), 6);
    }

    private static void work25KeepingAndBurningAreNotAsked() {
        sentence(25, "(how long something KEEPS, and burning, are not asked)");
        kitchen("pots 1 1 1;dish a work 2 keeps 1 burns 15;dish b work 3 keeps 1 burns 15;dish c work 4 from a b;");
        good(x.work(4), 9);
        x.make(0);
        x.make(1);
        no(x.make(2), 7);
    }

    private static void work25AtOneTime() {
        sentence(25, "to a GOAL, a set of DISHES that are to STAND at one time");
        kitchen("pots 1 1 1;dish a work 5 once;dish b work 1 from a;dish c work 2 from a;");
        good(x.work(2), 6);
        good(x.work(3), 11);
        good(x.work(6), 13);
        good(x.work(7), 18);
    }

    private static void work25TheKitchensPots() {
        sentence(25, "LEAST WORK with the kitchen's POTS");
        kitchen("pots 1 1 1;" + TWICE);
        good(x.work(16), 14);
        no(x.work(15), 6);
        kitchen("pots 1 1 1 1;" + TWICE);
        good(x.work(16), 9);
        good(x.work(15), 8);
        no(x.work(31), 6);
        kitchen("pots 1 1;" + TWICE);
        no(x.work(16), 6);
        good(x.work(2), 6);
        kitchen("pots 2 1;dish a work 1 size 2;dish b work 1 size 2;dish c work 1 size 3;");
        no(x.work(3), 6);
        no(x.work(4), 6);
        good(x.work(2), 1);
    }

    private static void work25BothOfAPairNeedAPot() {
        sentence(25, "LEAST WORK with the kitchen's POTS");
        kitchen("pots 1;dish a work 3;dish b work 8;pair a b;");
        no(x.work(1), 6);
        kitchen("pots 1 1;dish a work 3;dish b work 8;pair a b;");
        good(x.work(1), 8);
        good(x.work(3), 8);
    }

    private static void work25TheLongestWay() {
        sentence(25, FROM_NOTHING);
        kitchen(EIGHT + counter(12, 99));
        good(x.work(255), 255 * 99);
        good(x.work(128), 128 * 99);
        no(x.work(256), 6);
    }

    // ---- 26: steps

    private static void steps26ToNothing() {
        sentence(26, "LEAST STEPS (1; 6).");
        good(x.steps(0), 0);
        no(x.steps(1), 1);
        kitchen("dish a work 0;");
        good(x.steps(0), 0);
        no(x.steps(1), 6);
        no(x.steps(2), 1);
        no(x.steps(-1), 1);
    }

    private static void steps26WashingIsAStep() {
        sentence(26, "by MAKING, POURING, WASHING alone");
        kitchen("pots 1 1;" + chain(12, 99));
        good(x.steps(2048), 12 + 10);
        good(x.steps(2), 2);
        kitchen("pots 1;dish a work 1;dish b work 1 from a poured;dish c work 1 from b poured;");
        good(x.steps(4), 3);
    }

    private static void steps26PouredOnlyOverWhatItNeeds() {
        sentence(26, "by MAKING, POURING, WASHING alone");
        // Were c poured over x, it would be four.
        kitchen("pots 1 1 1;dish x work 1;dish d work 1 from x;dish a work 1;dish c work 1 from a poured;");
        good(x.steps(2 + 4 + 8), 5);
        good(x.first(2 + 4 + 8), 5);
        path(m(0), m(1), m(2), w(0), m(3));
    }

    private static void steps26WhateverTheWork() {
        sentence(26, "LEAST STEPS");
        kitchen("pots 1 1 1 1 1 1;dish a work 1;dish p work 1 once;pair a p;dish b work 1;dish q work 1 once;pair b q;"
            + "dish c work 1;dish r work 1 once;pair c r;dish d work 1;dish e work 1;dish k work 50 from p q r poured;");
        good(x.work(213), 5);
        good(x.first(213), 7);
        good(x.steps(213), 6);
    }

    private static void steps26TheLongestWay() {
        sentence(26, FROM_NOTHING);
        kitchen(EIGHT + counter(8, 0));
        good(x.steps(255), 255);
        good(x.steps(128), 128);
        kitchen(NEVER);
        no(x.steps(4), 6);
    }

    // ---- 27, 28: first, firstAt

    private static void path(int... codes) {
        for (int i = 0; i < codes.length; i++) {
            int kind = codes[i] / 1000;
            good(x.firstAt(i, 0), kind);
            good(x.firstAt(i, 1), codes[i] / 20 % 50);
            if (kind == 1) {
                good(x.firstAt(i, 2), codes[i] % 20);
            } else {
                no(x.firstAt(i, 2), 6);
            }
        }
        no(x.firstAt(codes.length, 0), 6);
    }

    private static int m(int dish) {
        return dish * 20;
    }

    private static int p(int dish, int over) {
        return 1000 + dish * 20 + over;
    }

    private static int w(int dish) {
        return 2000 + dish * 20;
    }

    private static void first27ToNothing() {
        sentence(27, "FIRST of a LEAST WORK: how many STEPS (1; 6).");
        good(x.first(0), 0);
        path();
        no(x.first(1), 1);
        kitchen("dish a work 1;");
        no(x.first(1), 6);
        no(x.first(2), 1);
        no(x.first(-1), 1);
    }

    private static void first27MakeByNumber() {
        sentence(27, "the first: to MAKE the DISHES by number");
        kitchen("pots 1 1 1;dish a work 1;dish b work 1;dish c work 1;");
        good(x.first(7), 3);
        path(m(0), m(1), m(2));
        good(x.first(6), 2);
        path(m(1), m(2));
    }

    private static void first27MakeAheadOfPour() {
        sentence(27, "to MAKE the DISHES by number, then to POUR by number");
        kitchen("pots 1 1;dish a work 1;dish b work 1 from a poured;");
        good(x.first(2), 2);
        path(m(0), m(1));
        kitchen("pots 1;dish a work 1;dish b work 1 from a poured;");
        good(x.first(2), 2);
        path(m(0), p(1, 0));
    }

    private static void first27PourByNumber() {
        sentence(27, "then to POUR by number");
        kitchen("pots 1 1;dish a work 1;dish b work 1;dish c work 1 from a poured;dish d work 1 from b poured;");
        good(x.first(12), 4);
        path(m(0), m(1), p(2, 0), p(3, 1));
    }

    private static void first27OverTheOthersByNumber() {
        sentence(27, "over the others by number");
        kitchen("pots 1 1 1;dish a work 1;dish b work 1;dish c work 1;dish d work 1 from a b c poured;");
        good(x.first(8), 4);
        path(m(0), m(1), m(2), p(3, 0));
        good(x.first(8 + 1), 4);
        path(m(0), m(1), m(2), p(3, 1));
        good(x.first(8 + 1 + 2), 4);
        path(m(0), m(1), m(2), p(3, 2));
    }

    private static void first27PourAheadOfWash() {
        sentence(27, "then to POUR by number, over the others by number, then to WASH by number.");
        kitchen("pots 1 1 1;dish a work 1;dish b work 1;dish c work 1 from a poured;dish d work 1 from b;dish f work 1;");
        good(x.first(4 + 8 + 16), 6);
        path(m(0), m(1), m(3), p(2, 0), w(1), m(4));
    }

    private static void first27WashByNumber() {
        sentence(27, "then to WASH by number.");
        kitchen("pots 1 1 1;dish a work 1;dish b work 1;dish c work 1 from a b;dish d work 1;dish e work 1;");
        good(x.first(4 + 8 + 16), 7);
        path(m(0), m(1), m(2), w(0), m(3), w(1), m(4));
    }

    private static void first27WashTheLastOfAll() {
        sentence(27, "then to WASH by number.");
        kitchen("pots 1 1;dish a work 1;dish b work 1;dish c work 1;pair a c;");
        good(x.first(3), 3);
        path(m(0), w(2), m(1));
    }

    private static void first27ThenAsFewSteps() {
        sentence(27, FIRST);
        // Of p, q, r two must go: two washes, or one pour without work of a dish that is not needed.
        kitchen("pots 1 1 1 1 1 1;dish a work 1;dish p work 1 once;pair a p;dish b work 1;dish q work 1 once;pair b q;"
            + "dish c work 1;dish r work 1 once;pair c r;dish d work 1;dish e work 1;dish k work 0 from p q r poured;");
        good(x.first(213), 6);
        path(m(0), m(2), m(4), p(8, 1), m(6), m(7));
    }

    private static void first27AsMuchWorkAheadOfFewSteps() {
        sentence(27, "of all that come to as much WORK, and then to as few STEPS");
        kitchen("pots 1 1 1 1 1 1;dish a work 1;dish p work 1 once;pair a p;dish b work 1;dish q work 1 once;pair b q;"
            + "dish c work 1;dish r work 1 once;pair c r;dish d work 1;dish e work 1;dish k work 1 from p q r poured;");
        good(x.first(213), 7);
        path(m(0), m(2), m(4), w(1), m(6), w(3), m(7));
    }

    private static void first27TheLesserOfAPair() {
        sentence(27, "to MAKE the DISHES by number");
        kitchen("pots 1 1 1;dish a work 1;dish b work 1;dish c work 1;pair c b;");
        good(x.first(4), 1);
        path(m(1));
        good(x.first(2), 1);
        path(m(1));
    }

    private static void first27AllTheStepsOfALongWay() {
        sentence(27, "STEPS one by one");
        kitchen(EIGHT + counter(8, 99));
        good(x.first(255), 255);
        for (int i = 0; i < 240; i++) {
            due(x.firstAt(i, 1), Integer.numberOfTrailingZeros(i + 1));
        }
        good(x.firstAt(254, 1), 0);
        good(x.firstAt(254, 0), 0);
        no(x.firstAt(255, 1), 6);
    }

    private static void first27FromNothingEachTime() {
        sentence(27, "From nothing that STANDS");
        kitchen("pots 1 1 1;" + TWICE);
        x.make(0);
        for (int i = 0; i < 2; i++) {
            good(x.first(16), 9);
            path(m(0), m(1), m(2), w(0), m(3), w(1), m(0), w(2), m(4));
            good(x.first(2), 2);
            path(m(0), m(1));
        }
    }

    private static void firstAt28NoneSuch() {
        sentence(28, "(1: what; 6: none such)");
        no(x.firstAt(0, 0), 6);
        kitchen("pots 1 1 1;" + TWICE);
        no(x.firstAt(0, 0), 6);
        x.first(16);
        for (int k : new int[] {-1, 9, 10, Integer.MIN_VALUE, Integer.MAX_VALUE}) {
            no(x.firstAt(k, 0), 6);
            no(x.firstAt(k, 1), 6);
            no(x.firstAt(k, 2), 6);
        }
        good(x.firstAt(8, 1), 4);
    }

    private static void firstAt28WhatCannotBe() {
        sentence(28, "(1: what; 6: none such)");
        no(x.firstAt(0, 3), 1);
        kitchen("pots 1;dish a work 1;");
        x.first(1);
        for (int what : new int[] {-1, 3, Integer.MIN_VALUE, Integer.MAX_VALUE}) {
            no(x.firstAt(0, what), 1);
            no(x.firstAt(9, what), 1);
        }
    }

    private static void firstAt28OverWhichOnlyOfAPour() {
        sentence(28, "Its k-th STEP, by first() latest with STATUS 0, what 0: 0 MAKE, 1 POUR, 2 WASH, 1: the DISH, 2: over "
                + "which (6: it is no POUR) (1: what; 6: none such).");
        kitchen("pots 1 1;dish a work 1;dish b work 1;dish c work 1 from a b poured;dish d work 1 size 1;");
        good(x.first(4 + 8), 5);
        path(m(0), m(1), p(2, 0), w(1), m(3));
    }

    private static void firstAt28TheLatestWithStatusZero() {
        sentence(28, "by first() latest with STATUS 0");
        kitchen("pots 1 1 1;" + TWICE);
        good(x.first(16), 9);
        no(x.first(15), 6);
        no(x.first(32), 1);
        good(x.firstAt(8, 1), 4);
        good(x.work(2), 6);
        good(x.steps(2), 2);
        good(x.spared(16, 1), 5);
        good(x.curve(16, 4), 9);
        yes(x.again(16));
        good(x.firstAt(8, 1), 4);
        good(x.first(1), 1);
        for (int k = 1; k < 10; k++) {
            no(x.firstAt(k, 1), 6);
        }
        good(x.first(0), 0);
        no(x.firstAt(0, 0), 6);
        no(x.firstAt(1, 0), 6);
    }

    private static void firstAt28BehindAnotherMenu() {
        sentence(28, "by first() latest with STATUS 0");
        kitchen("pots 1 1 1;" + TWICE);
        x.mark();
        good(x.first(16), 9);
        goodMenu("", 0);
        good(x.firstAt(8, 1), 4);
        x.back();
        good(x.firstAt(8, 1), 4);
        no(x.firstAt(9, 1), 6);
    }

    // ---- 29: fewest

    private static final String FEWEST = "FEWEST POTS: as if there were so many POTS of size 9, and no others.";

    private static void fewest29ToNothing() {
        sentence(29, "FEWEST POTS (1; 6: 12 are not enough, too).");
        good(x.fewest(0), 0);
        no(x.fewest(1), 1);
        kitchen("dish a work 1;");
        good(x.fewest(0), 0);
        good(x.fewest(1), 1);
        no(x.fewest(2), 1);
        no(x.fewest(-1), 1);
    }

    private static void fewest29NoOthers() {
        sentence(29, FEWEST);
        kitchen(EIGHT + "dish a work 1 size 9;dish b work 1 size 9 from a;");
        good(x.fewest(2), 2);
        no(x.work(2), 6);
        kitchen("dish a work 1;dish b work 1 from a poured;dish c work 1 from a;");
        good(x.fewest(2), 1);
        good(x.fewest(4), 2);
        good(x.fewest(6), 2);
        good(x.fewest(7), 3);
    }

    private static void fewest29TwelvePots() {
        sentence(29, FEWEST);
        kitchen(counter(12, 99));
        for (int d = 0; d < 12; d++) {
            good(x.fewest(1 << d), d + 1);
        }
        good(x.fewest(4095), 12);
        kitchen(dishes(12));
        good(x.fewest(4095), 12);
        good(x.fewest(2047), 11);
    }

    private static void fewest29TwelveAreNotEnough() {
        sentence(29, "6: 12 are not enough, too");
        kitchen(NEVER);
        no(x.fewest(1), 6);
        good(x.fewest(16), 1);
        no(x.fewest(17), 6);
        kitchen(EITHER);
        no(x.fewest(3), 6);
        no(x.fewest(1), 6);
    }

    private static void fewest29WashedOneByOne() {
        sentence(29, FEWEST);
        // b stands beside d when a is washed: to make it again of p, q and r a fifth would be needed.
        kitchen("dish p work 1;dish q work 1;dish r work 1;dish b work 1 from p q r;dish a work 1;dish c work 1;"
            + "dish d work 1 from a b;dish e work 1 from b c;dish f work 1 from d e;");
        good(x.fewest(256), 4);
        good(x.fewest(128 + 64), 4);
    }

    private static void fewest29PouredOnlyOverWhatStands() {
        sentence(29, FEWEST);
        kitchen("dish o work 1;dish a work 1;dish b work 1;dish c work 1 from a b poured;");
        good(x.fewest(8), 2);
        good(x.fewest(8 + 2), 2);
        good(x.fewest(8 + 4 + 2), 3);
    }

    private static void fewest29ManyAsksInAnyOrder() {
        sentence(29, FEWEST);
        kitchen(TWICE);
        int[] goals = {31, 0, 16, 1, 24, 2, 16, 31, 8, 0, 15};
        int[] pots = {5, 0, 3, 1, 3, 2, 3, 5, 3, 0, 4};
        for (int i = 0; i < goals.length; i++) {
            good(x.fewest(goals[i]), pots[i]);
        }
    }

    // ---- 30: curve

    private static void curve30ZeroToTwelve() {
        sentence(30, "CURVE: LEAST WORK with so many POTS of size 9 (0 to 12).");
        kitchen("pots 1;" + TWICE);
        for (int pots = 0; pots < 3; pots++) {
            no(x.curve(16, pots), 6);
        }
        good(x.curve(16, 3), 14);
        for (int pots = 4; pots <= 12; pots++) {
            good(x.curve(16, pots), 9);
        }
        for (int pots : new int[] {-1, 13, Integer.MIN_VALUE, Integer.MAX_VALUE}) {
            no(x.curve(16, pots), 1);
        }
        no(x.curve(32, 3), 1);
        no(x.curve(-1, 3), 1);
    }

    private static void curve30ToNothing() {
        sentence(30, "CURVE: LEAST WORK with so many POTS of size 9 (1; 6).");
        good(x.curve(0, 0), 0);
        good(x.curve(0, 12), 0);
        kitchen("dish a work 7;");
        good(x.curve(0, 0), 0);
        no(x.curve(1, 0), 6);
        good(x.curve(1, 1), 7);
    }

    private static void curve30OfSizeNine() {
        sentence(30, "LEAST WORK with so many POTS of size 9");
        kitchen("dish a work 1 size 9;dish b work 1 size 8;");
        no(x.curve(3, 1), 6);
        good(x.curve(3, 2), 2);
    }

    private static void curve30TheLongestWayOfAll() {
        sentence(30, "CURVE: LEAST WORK with so many POTS of size 9 (0 to 12).");
        kitchen(counter(12, 99));
        good(x.curve(4095, 12), 4095 * 99);
        no(x.curve(4095, 11), 6);
        good(x.curve(2048, 12), 2048 * 99);
        good(x.curve(1024, 11), 1024 * 99);
    }

    private static void curve30WhereItCanNeverBe() {
        sentence(30, "(1; 6)");
        kitchen(NEVER);
        no(x.curve(1, 12), 6);
        good(x.curve(16, 12), 1);
    }

    // ---- 31: trustful

    private static void trustful31ToNothing() {
        sentence(31, "TRUSTFUL (1; 4: more than 8 are NEEDED; 6).");
        good(x.trustful(0), 0);
        no(x.trustful(1), 1);
        kitchen("dish a work 1;");
        good(x.trustful(0), 0);
        good(x.trustful(1), 1);
        no(x.trustful(2), 1);
        no(x.trustful(-1), 1);
    }

    private static void trustful31NothingTrustedStandsBehindIt() {
        sentence(31, "and behind it all nothing that is TRUSTED STANDS");
        kitchen("dish a work 1;dish b work 1;dish c work 1 from a b;dish d work 1 from c;");
        good(x.trustful(4), 3);
        good(x.trustful(8), 3);
        good(x.trustful(15), 4);
    }

    private static void trustful31WhatIsUsedUpNeedNotBeShown() {
        sentence(31, TRUSTFUL);
        kitchen("dish a work 1;dish b work 1;dish c work 1;dish d work 1 from a b c once;dish e work 1 from d;");
        good(x.fewest(16), 4);
        good(x.trustful(16), 2);
        good(x.trustful(8), 4);
    }

    private static void trustful31EightAndNine() {
        sentence(31, "for a GOAL with which at most 8 DISHES are NEEDED together (with itself, and partners)");
        kitchen(chain(12, 1));
        good(x.trustful(128), 2);
        no(x.trustful(256), 4);
        no(x.trustful(4095), 4);
        kitchen(dishes(9));
        good(x.trustful(255), 8);
        good(x.trustful(510), 8);
        no(x.trustful(511), 4);
        kitchen(dishes(8) + "dish i work 1;pair ha i;");
        no(x.trustful(255), 4);
        good(x.trustful(127), 7);
        good(x.trustful(128), 2);
    }

    private static void trustful31NoOthers() {
        sentence(31, "no others are MADE, POURED or TRUSTED.");
        // Were k made of the trusted t, t need not be made of a, b and c: 3 POTS would do.
        String menu = "dish a work 1;dish b work 1;dish c work 1;dish t work 1 from a b c once;dish x work 1;"
                + "dish u work 1 from t;dish w work 1 from x;pair u w;dish g work 1 from u;";
        kitchen(menu);
        good(x.needed(128), 255);
        good(x.trustful(128), 4);
        kitchen(menu + "dish k work 1 from t;");
        good(x.trustful(128), 4);
    }

    private static void trustful31ShownByWhatItNeeds() {
        sentence(31, "if DISHES may be TRUSTED and SHOWN, too");
        // u is trusted, g made of it, u shown by t: its partner, which needs three, is never made.
        kitchen("dish t work 1;dish x work 1;dish y work 1;dish z work 1;dish u work 1 from t;dish w work 1 from x y z;"
            + "pair u w;dish g work 1 from u;");
        good(x.fewest(64), 6);
        good(x.trustful(64), 3);
        good(x.trustful(16), 6);
    }

    private static void trustful31BehindAPourTheTrustedStay() {
        sentence(31, "and behind it all nothing that is TRUSTED STANDS");
        kitchen("dish p work 1;dish q work 1;dish r work 1;dish a work 1 from p q r;dish b work 1;"
            + "dish c work 1 from a b poured;");
        good(x.trustful(32), 4);
    }

    private static void trustful31WhatIsTrustedNeedsAPot() {
        sentence(31, TRUSTFUL);
        kitchen("dish x work 1;dish t work 1 once;dish c work 1 from x t poured;");
        good(x.trustful(4), 2);
        // Once x is made of p and q in three pots, t is made of a, and then u is trusted in the last pot.
        kitchen("dish p work 1;dish q work 1;dish x work 1 from p q;dish a work 1;dish t work 1 from a once;dish e work 1;"
            + "dish u work 1 from e once;dish c work 1 from x t u poured;");
        good(x.needed(128), 255);
        good(x.trustful(128), 3);
        good(x.fewest(128), 4);
    }

    private static void trustful31OfSizeNine() {
        sentence(31, "FEWEST POTS of size 9 if DISHES may be TRUSTED and SHOWN, too");
        kitchen("pots 1;dish a work 1 size 9;dish b work 1 size 9 from a;dish c work 1 size 9 from b poured;");
        good(x.trustful(2), 2);
        good(x.trustful(4), 2);
    }

    private static void trustful31ItCannotBe() {
        sentence(31, "4: more than 8 are NEEDED; 6");
        kitchen(EITHER);
        no(x.trustful(3), 6);
        good(x.trustful(1), 3);
        good(x.trustful(2), 3);
        kitchen(NEVER);
        good(x.trustful(1), 3);
        good(x.trustful(16), 1);
    }

    private static void trustful31OthersAskedInBetween() {
        sentence(31, TRUSTFUL);
        kitchen("dish a work 1;dish b work 1;dish c work 1;dish d work 1 from a b c once;dish e work 1 from d;");
        for (int i = 0; i < 2; i++) {
            good(x.trustful(16), 2);
            good(x.trustful(8), 4);
            good(x.fewest(16), 4);
            good(x.trustful(16 + 8), 5);
            good(x.trustful(0), 0);
        }
    }

    // ---- 32: bound

    private static void bound32OfNothingAndOfAll() {
        sentence(32, "BOUND (1).");
        good(x.bound(0), 0);
        no(x.bound(1), 1);
        kitchen(dishes(12));
        good(x.bound(0), 0);
        good(x.bound(1), 1);
        good(x.bound(4095), 12);
        no(x.bound(4096), 1);
        no(x.bound(-1), 1);
    }

    private static void bound32OneMoreOrNot() {
        sentence(32, BOUND);
        kitchen(dishes(8) + "dish i work 1 from aa ba ca;dish j work 1 from aa ba ca poured;dish k work 1 from aa poured;"
            + "dish l work 1 from k;");
        good(x.bound(256), 4);
        good(x.bound(512), 3);
        good(x.bound(1024), 1);
        good(x.bound(2048), 2);
        good(x.bound(256 + 512), 4);
        good(x.bound(512 + 1 + 2 + 4), 4);
    }

    private static void bound32ElevenNeeds() {
        sentence(32, BOUND);
        String all = "aa ba ca da ea fa ga ha ia ja ka";
        kitchen(dishes(11) + "dish z work 1 from " + all + ";");
        good(x.bound(2048), 12);
        kitchen(dishes(11) + "dish z work 1 from " + all + " poured;");
        good(x.bound(2048), 11);
        good(x.bound(4095), 12);
    }

    private static void bound32OfEachThatIsNeeded() {
        sentence(32, "of each DISH that is NEEDED for it");
        kitchen(dishes(4) + "dish e work 1 from aa ba ca da;dish f work 1 from e;dish g work 1 from f;dish h work 1;"
            + "dish i work 1;pair h f;dish j work 1;");
        good(x.bound(64), 5);
        good(x.bound(128), 5);
        good(x.bound(256 + 512), 2);
    }

    // ---- 33: treeRule

    private static void treeRule33ItNeedsNothing() {
        sentence(33, "TREE RULE (1; 7).");
        no(x.treeRule(0), 1);
        kitchen("dish a work 1;");
        good(x.treeRule(0), 1);
        no(x.treeRule(1), 1);
        no(x.treeRule(-1), 1);
    }

    private static void treeRule33OneMoreOrNot() {
        sentence(33, TREE);
        kitchen(dishes(6) + "dish g work 1 from aa;dish h work 1 from ba poured;dish i work 1 from ca da ea;"
            + "dish j work 1 from h fa poured;");
        good(x.treeRule(6), 2);
        good(x.treeRule(7), 1);
        good(x.treeRule(8), 4);
        good(x.treeRule(9), 2);
    }

    private static void treeRule33ElevenNeeds() {
        sentence(33, TREE);
        String all = "aa ba ca da ea fa ga ha ia ja ka";
        kitchen(dishes(11) + "dish z work 1 from " + all + ";");
        good(x.treeRule(11), 12);
        kitchen(dishes(11) + "dish z work 1 from " + all + " poured;");
        good(x.treeRule(11), 11);
    }

    private static void treeRule33TheGreatestAhead() {
        sentence(33, "the greatest ahead: the first's, the second's and 1, the third's and 2 ..");
        // 1 and 3: 3, 1 and 1. Not 1, 3 and 1.
        kitchen("dish a work 1;dish b work 1;dish c work 1;dish d work 1 from b c;dish e work 1 from a d;");
        good(x.treeRule(4), 3);
        // 3, 3, 3: 3, 3 and 1, 3 and 2.
        kitchen(dishes(6) + "dish g work 1 from aa ba;dish h work 1 from ca da;dish i work 1 from ea fa;"
            + "dish j work 1 from g h i;");
        good(x.treeRule(9), 5);
        // 3, 2 and 1, 1 and 2, and three needs and one more.
        kitchen(dishes(4) + "dish e work 1 from aa;dish f work 1 from ba ca;dish g work 1 from da e f;");
        good(x.treeRule(6), 4);
        kitchen(dishes(4) + "dish e work 1 from aa;dish f work 1 from ba ca;dish g work 1 from da e f poured;");
        good(x.treeRule(6), 3);
    }

    private static void treeRule33InAPair() {
        sentence(33, NO_TREE);
        kitchen("dish a work 1;dish b work 1;pair a b;dish c work 1 from a;dish d work 1;");
        no(x.treeRule(0), 7);
        no(x.treeRule(1), 7);
        no(x.treeRule(2), 7);
        good(x.treeRule(3), 1);
    }

    private static void treeRule33Once() {
        sentence(33, "is in a PAIR, is once");
        kitchen("dish a work 1 once;dish b work 1 from a;dish c work 1;dish d work 1 from c once;");
        no(x.treeRule(0), 7);
        no(x.treeRule(1), 7);
        good(x.treeRule(2), 1);
        no(x.treeRule(3), 7);
    }

    private static void treeRule33NeededByTwo() {
        sentence(33, "or is NEEDED by two of these.");
        kitchen("dish a work 1;dish b work 1 from a;dish c work 1 from a;dish d work 1 from b c;dish e work 1 from a b;"
            + "dish f work 1;dish g work 1 from b f;");
        good(x.treeRule(1), 2);
        good(x.treeRule(2), 2);
        no(x.treeRule(3), 7);
        no(x.treeRule(4), 7);
        good(x.treeRule(6), 3);
    }

    private static void treeRule33ALongChain() {
        sentence(33, TREE);
        kitchen(chain(12, 1));
        good(x.treeRule(11), 2);
    }

    // ---- 34: rounds

    private static void rounds34ToNothing() {
        sentence(34, "ROUNDS of so many cooks (1; 6).");
        good(x.rounds(0, 1), 0);
        no(x.rounds(1, 1), 1);
        kitchen("dish a work 1;");
        good(x.rounds(0, 4), 0);
        no(x.rounds(1, 4), 6);
        no(x.rounds(2, 4), 1);
        no(x.rounds(-1, 4), 1);
    }

    private static void rounds34OneToFourCooks() {
        sentence(34, ROUNDS);
        kitchen(EIGHT + dishes(8));
        int[] due = {8, 4, 3, 2};
        for (int cooks = 1; cooks <= 4; cooks++) {
            good(x.rounds(255, cooks), due[cooks - 1]);
            good(x.rounds(1, cooks), 1);
        }
        for (int cooks : new int[] {0, 5, -1, Integer.MIN_VALUE, Integer.MAX_VALUE}) {
            no(x.rounds(255, cooks), 1);
        }
    }

    private static void rounds34WhatEachNeedsStandsAhead() {
        sentence(34, "all that each NEEDS STANDS ahead of it");
        kitchen(EIGHT + chain(8, 1));
        good(x.rounds(128, 4), 8);
        good(x.rounds(255, 4), 8);
        kitchen("pots 1 1;" + chain(8, 1));
        good(x.rounds(128, 4), 8);
    }

    private static void rounds34AllFitsTogether() {
        sentence(34, "and all FITS together");
        kitchen("pots 1 1;dish a work 1;dish b work 1;dish c work 1 from a;");
        good(x.rounds(6, 4), 3);
        no(x.rounds(7, 4), 6);
        kitchen("pots 1 1 1;dish a work 1;dish b work 1;dish c work 1 from a;");
        good(x.rounds(6, 4), 2);
        good(x.rounds(7, 4), 2);
        kitchen("pots 1 2;dish a work 1 size 2;dish b work 1 size 2;");
        no(x.rounds(3, 2), 6);
        good(x.rounds(2, 2), 1);
    }

    private static void rounds34FitsIsAskedAheadOfWhatGoes() {
        sentence(34, "and all FITS together; then what they NEED that is once is gone");
        kitchen("pots 1;dish a work 1 once;dish b work 1 from a;");
        no(x.rounds(2, 1), 6);
        kitchen("pots 1 1;dish a work 1 once;dish b work 1 from a;dish c work 1 from a;");
        good(x.rounds(2, 1), 2);
        good(x.rounds(3, 4), 3);
        no(x.rounds(6, 4), 6);
    }

    private static void rounds34SeveralAtOnceOfOneThatIsOnce() {
        sentence(34, "are MADE at once");
        kitchen("pots 1 1 1 1;dish a work 1 once;dish b work 1 from a;dish c work 1 from a;dish d work 1 from a;");
        good(x.rounds(14, 3), 2);
        good(x.rounds(14, 2), 4);
        good(x.rounds(14, 1), 6);
        good(x.rounds(15, 3), 3);
    }

    private static void rounds34WashedBetween() {
        sentence(34, "between ROUNDS as much is WASHED as one likes");
        kitchen("pots 1 1 1 1;dish a work 1;dish b work 1;dish c work 1;dish d work 1 from a b c;dish e work 1;"
            + "dish f work 1;dish g work 1;");
        good(x.rounds(8 + 16 + 32 + 64, 4), 3);
        good(x.rounds(8 + 16 + 32 + 64, 1), 7);
    }

    private static void rounds34SomeAreWashedAndSomeNot() {
        sentence(34, "between ROUNDS as much is WASHED as one likes");
        kitchen("pots 1 1 1;dish j work 1;dish k work 1 from j;dish l work 1 from j;dish m work 1;");
        good(x.rounds(2 + 4 + 8, 2), 3);
        good(x.rounds(2 + 4 + 8, 1), 4);
    }

    private static void rounds34NeverOneOfAPair() {
        sentence(34, "a GOAL is reached that has a DISH in a PAIR never");
        kitchen(EIGHT + "dish a work 1;dish b work 1;pair a b;dish c work 1 from a;dish d work 1;");
        no(x.rounds(1, 4), 6);
        no(x.rounds(2, 4), 6);
        no(x.rounds(8 + 1, 4), 6);
        no(x.rounds(4, 4), 6);
        good(x.rounds(8, 4), 1);
        kitchen(EIGHT + "dish a work 1;dish b work 1;dish c work 1;dish d work 1;pair a c;");
        no(x.rounds(1, 4), 6);
        no(x.rounds(4, 4), 6);
        no(x.rounds(5, 4), 6);
        good(x.rounds(10, 4), 1);
    }

    private static void rounds34NothingIsPoured() {
        sentence(34, "are MADE at once");
        kitchen("pots 1;dish a work 1;dish b work 1 from a poured;");
        no(x.rounds(2, 4), 6);
        good(x.work(2), 2);
        kitchen("pots 1 1;dish a work 1;dish b work 1 from a poured;");
        good(x.rounds(2, 4), 2);
    }

    private static void rounds34TheMostRounds() {
        sentence(34, "the fewest ROUNDS till it STANDS.");
        kitchen(EIGHT + counter(8, 1));
        good(x.rounds(255, 1), 255);
        good(x.rounds(128, 1), 128);
    }

    private static void rounds34WhateverStandsByHand() {
        sentence(34, ROUNDS);
        kitchen("pots 1 1;dish a work 1;dish b work 1 from a;");
        x.make(0);
        good(x.rounds(2, 1), 2);
        good(x.rounds(3, 1), 2);
    }

    // ---- 35: spared

    private static void spared35SizesOneToNine() {
        sentence(35, "SPARED by one POT more of a size (1 to 9) (1; 6: it can't be without it).");
        kitchen("pots 5 5 5;" + TWICE.replace("work 1", "work 1 size 5").replace("work 5", "work 5 size 5"));
        for (int size = 1; size <= 9; size++) {
            good(x.spared(16, size), size < 5 ? 0 : 5);
        }
        for (int size : new int[] {0, 10, -1, Integer.MIN_VALUE, Integer.MAX_VALUE}) {
            no(x.spared(16, size), 1);
        }
        no(x.spared(32, 1), 1);
        no(x.spared(-1, 1), 1);
    }

    private static void spared35ItCannotBeWithoutIt() {
        sentence(35, "6: it can't be without it");
        kitchen("pots 1 1;" + TWICE);
        no(x.spared(16, 1), 6);
        good(x.spared(2, 1), 0);
        good(x.spared(0, 1), 0);
        kitchen("dish a work 1;");
        no(x.spared(1, 1), 6);
        good(x.spared(0, 9), 0);
    }

    private static void spared35ANinthPot() {
        sentence(35, "SPARED: LEAST WORK less that with one POT more of a size.");
        kitchen(EIGHT + TWICE_IN_EIGHT);
        good(x.work(512), 5 + 5 + 9);
        good(x.spared(512, 1), 5);
        good(x.spared(512, 9), 5);
        good(x.spared(256, 1), 0);
        told(1, 8);
        good(x.work(512), 19);
    }

    private static void spared35OneAndNoMore() {
        sentence(35, "one POT more of a size");
        // With 3 POTS a and b must be made again, with 4 only b, with 5 none.
        String menu = "dish a work 5;dish b work 2;dish c work 1 from b;dish d work 1 from a;dish e work 1 from c d;"
                + "dish f work 1 from a e;dish g work 1 from b f;";
        int[] least = {19, 14, 12, 12};
        for (int pots = 3; pots <= 5; pots++) {
            kitchen("pots" + " 1".repeat(pots) + ";" + menu);
            good(x.work(64), least[pots - 3]);
            good(x.spared(64, 1), least[pots - 3] - least[pots - 2]);
            good(x.spared(64, 9), least[pots - 3] - least[pots - 2]);
        }
    }

    private static void spared35ToNothing() {
        sentence(35, "SPARED: LEAST WORK less that with one POT more of a size.");
        good(x.spared(0, 1), 0);
        no(x.spared(1, 1), 1);
    }

    // ---- 36: again

    private static void again36ThatIsZero() {
        sentence(36, "The FRACTION is LEAST WORK by the WORK of all that is NEEDED, each once (of a PAIR the greater one) "
                + "(1; 6: it can't be, that is 0).");
        no(x.again(0), 6);
        no(x.again(1), 1);
        kitchen("pots 1 1;dish a work 0;dish b work 0 from a;dish c work 1;");
        no(x.again(2), 6);
        no(x.again(0), 6);
        fraction(0, 1);
        yes(x.again(4));
        fraction(1, 1);
        no(x.again(8), 1);
        no(x.again(-1), 1);
        fraction(1, 1);
    }

    private static void again36ItCannotBe() {
        sentence(36, "6: it can't be, that is 0");
        kitchen("pots 1 1;" + TWICE);
        no(x.again(16), 6);
        kitchen(NEVER);
        no(x.again(1), 6);
        yes(x.again(16));
        fraction(1, 1);
    }

    private static void again36OfAPairTheGreater() {
        sentence(36, "each once (of a PAIR the greater one)");
        kitchen("pots 1 1 1 1;dish y work 3;dish a work 4;dish b work 6 from y once;pair a b;dish c work 2 from b;");
        yes(x.again(8));
        fraction(1, 1);
        // y, the pair, c, then a goes for the pair to be made again: 3 + 6 + 2 + 6 by 3 + 6 + 2.
        yes(x.again(8 + 4));
        fraction(17, 11);
    }

    private static void again36TheMost() {
        sentence(36, "The FRACTION is LEAST WORK by the WORK of all that is NEEDED, each once");
        kitchen(EIGHT + counter(8, 99));
        yes(x.again(255));
        fraction(255, 8);
        yes(x.again(128));
        fraction(16, 1);
    }

    public static void main(String[] args) throws IllegalAccessException {
        runAll(LeastEdgesTest.class);
    }
}
