/** Promises 41 and 42, sentence by sentence: MARKS, and what is taken back to them. */
public final class MarkEdgesTest extends Edges {
    private static final String MARKS = "MARKS, at most 3: the MENU, what STANDS and since when, the WORK and STEPS done by "
            + "hand, the PLAN are kept as they are; all is taken back to the latest MARK, which is gone then.";
    private static final String TWO = "pots 1 1 1;dish a work 3 keeps 5;dish b work 5;dish c work 7;";

    private static void mark41AtMostThree() {
        sentence(41, "MARKS, at most 3");
        good(x.mark(), 1);
        good(x.mark(), 2);
        good(x.mark(), 3);
        no(x.mark(), 4);
        no(x.mark(), 4);
        good(x.back(), 2);
        good(x.mark(), 3);
        no(x.mark(), 4);
    }

    private static void mark41HowManyThereAre() {
        sentence(41, "A MARK more: how many there are (4).");
        kitchen(TWO);
        good(x.mark(), 1);
        good(x.back(), 0);
        good(x.mark(), 1);
        good(x.mark(), 2);
        good(x.back(), 1);
        good(x.mark(), 2);
    }

    private static void mark41ChangesNothingElse() {
        sentence(41, "are kept as they are");
        kitchen(TWO);
        planned("make b;");
        x.make(0);
        x.trust(1);
        good(x.mark(), 1);
        told(0, 3);
        told(1, 3);
        told(2, 3);
        told(3, 2);
        told(4, 3);
        told(5, 2);
        good(x.keeps(0), 4);
        good(x.cook(NONE), 2);
        good(x.dish(2, 0), 7);
        good(x.work(7), 15);
    }

    /** The fourth is refused: what is taken back then is the third. */
    private static void mark41ARefusedOneMovesNoMark() {
        sentence(41, "With another STATUS than 0 a call gives NONE, or false, and changes nothing else");
        kitchen(TWO);
        x.mark();
        x.mark();
        x.make(0);
        x.mark();
        x.make(1);
        no(x.mark(), 4);
        x.make(2);
        good(x.back(), 2);
        told(2, 1);
        good(x.back(), 1);
        told(2, 0);
    }

    private static void back42WithoutOne() {
        sentence(42, "All is taken back to the latest MARK: how many there are left (6).");
        no(x.back(), 6);
        kitchen(TWO);
        x.make(0);
        no(x.back(), 6);
        told(2, 1);
        x.mark();
        good(x.back(), 0);
        no(x.back(), 6);
        told(2, 1);
    }

    private static void back42TheMenu() {
        sentence(42, MARKS);
        kitchen(TWO + "pair b c;");
        x.mark();
        goodMenu("pots 9;dish z work 9 size 9 keeps 9 burns 9;dish y work 8 from z poured once;", 2);
        good(x.work(1), 9);
        good(x.back(), 0);
        told(0, 3);
        told(1, 3);
        good(x.pot(0), 1);
        int[] due = {3, 1, 5, 0, 0, 0, 0};
        for (int what = 0; what < 7; what++) {
            good(x.dish(0, what), due[what]);
        }
        no(x.dish(0, 7), 6);
        good(x.dish(1, 7), 2);
        good(x.dish(1, 4), 0);
        good(x.dish(1, 5), 0);
        good(x.work(6), 7);
        good(x.fewest(2), 2);
        good(x.make(1), 6);
        goodPlan("make a;", 1);
    }

    private static void back42ToNoMenuAtAll() {
        sentence(42, "the MENU, what STANDS and since when");
        x.mark();
        goodMenu(TWO, 3);
        x.make(0);
        good(x.back(), 0);
        told(0, 0);
        told(1, 0);
        told(2, 0);
        no(x.dish(0, 0), 1);
        good(x.work(0), 0);
        no(x.work(1), 1);
    }

    private static void back42WhatStandsAndSinceWhen() {
        sentence(42, "what STANDS and since when");
        kitchen(TWO);
        x.make(0);
        x.make(1);
        good(x.mark(), 1);
        x.wash(0);
        x.make(0);
        x.wash(1);
        x.trust(1);
        good(x.keeps(0), 3);
        good(x.back(), 0);
        told(2, 3);
        told(3, 0);
        good(x.keeps(0), 4);
        x.make(2);
        x.wash(2);
        x.make(2);
        good(x.keeps(0), 1);
        good(x.wash(2), 2);
    }

    private static void back42WhatIsSpoiltComesBack() {
        sentence(42, "what STANDS and since when");
        kitchen("pots 1 1 1;dish a work 1 keeps 1;dish b work 1;");
        x.make(0);
        x.mark();
        good(x.make(1), 2);
        good(x.back(), 0);
        told(2, 1);
        good(x.keeps(0), 1);
        good(x.trust(1), 2);
    }

    private static void back42WhatIsTrusted() {
        sentence(42, "what STANDS and since when");
        kitchen(TWO);
        x.trust(1);
        x.mark();
        x.show(1);
        x.make(1);
        x.trust(2);
        good(x.back(), 0);
        told(2, 2);
        told(3, 2);
        no(x.wash(1), 7);
        good(x.show(1), 0);
    }

    private static void back42WorkAndSteps() {
        sentence(42, "the WORK and STEPS done by hand");
        kitchen(TWO);
        x.make(0);
        x.make(1);
        x.mark();
        x.make(2);
        x.wash(2);
        told(4, 15);
        told(5, 4);
        good(x.back(), 0);
        told(4, 8);
        told(5, 2);
        x.mark();
        x.empty();
        told(4, 0);
        good(x.back(), 0);
        told(4, 8);
        told(5, 2);
        told(2, 3);
    }

    private static void back42ThePlan() {
        sentence(42, "the PLAN are kept as they are");
        kitchen(TWO);
        x.mark();
        planned("make a;loop 2;make b;end;");
        x.mark();
        planned("make c;");
        good(x.cook(NONE), 4);
        good(x.back(), 1);
        good(x.cook(NONE), 3);
        good(x.judged(), 2);
        good(x.back(), 0);
        no(x.cook(NONE), 6);
        no(x.judged(), 6);
    }

    private static void back42ThePlanBehindAnotherMenu() {
        sentence(42, MARKS);
        kitchen(TWO);
        planned("make c;");
        x.mark();
        goodMenu("dish z work 1;", 1);
        no(x.cook(NONE), 6);
        good(x.back(), 0);
        good(x.cook(NONE), 4);
        good(x.cooked(0), 7);
    }

    private static void back42EachMarkItsOwn() {
        sentence(42, "all is taken back to the latest MARK, which is gone then.");
        kitchen(TWO);
        good(x.mark(), 1);
        x.make(0);
        good(x.mark(), 2);
        x.make(1);
        good(x.mark(), 3);
        x.make(2);
        told(2, 7);
        good(x.back(), 2);
        told(2, 3);
        good(x.back(), 1);
        told(2, 1);
        good(x.back(), 0);
        told(2, 0);
        no(x.back(), 6);
    }

    private static void back42WhatIsDoneBehindItIsItsOwn() {
        sentence(42, "which is gone then.");
        kitchen(TWO);
        good(x.mark(), 1);
        x.make(0);
        good(x.back(), 0);
        x.make(1);
        good(x.mark(), 1);
        x.make(2);
        good(x.back(), 0);
        told(2, 2);
        no(x.back(), 6);
        told(2, 2);
    }

    private static void back42AFaultyMenuBehindAMark() {
        sentence(42, MARKS);
        kitchen(TWO);
        x.make(1);
        x.mark();
        menuFault("dish a work 1;^x", 2);
        told(2, 2);
        good(x.back(), 0);
        told(0, 3);
        told(2, 2);
        good(x.work(7), 15);
    }

    private static void back42WhatNoMarkKeeps() {
        sentence(42, MARKS);
        kitchen(TWO);
        planned("make a;");
        x.mark();
        x.tray(0, 0, 1);
        x.write(0, 0, 5);
        x.cook(NONE);
        x.first(2);
        yes(x.again(2));
        planFault("make ^z;", 3);
        x.feed(0, 0, 0, 0, 0);
        good(x.back(), 0);
        good(x.read(0, 0), 5);
        good(x.cooked(0), 3);
        good(x.firstAt(0, 1), 1);
        fraction(1, 1);
        due(x.fault(0), 3);
        due(x.feed(0, 0, 0, 0, 0), 40);
    }

    private static void back42WhatWasSoughtForAnotherMenu() {
        sentence(42, MARKS);
        kitchen("pots 1 1;dish a work 1;dish b work 2 from a;");
        good(x.work(2), 3);
        good(x.steps(2), 2);
        good(x.fewest(2), 2);
        good(x.trustful(2), 2);
        good(x.rounds(2, 1), 2);
        good(x.curve(2, 2), 3);
        x.mark();
        goodMenu("pots 1;dish a work 1;dish b work 9 from a poured;", 2);
        good(x.work(2), 10);
        good(x.fewest(2), 1);
        good(x.trustful(2), 1);
        no(x.rounds(2, 1), 6);
        good(x.curve(2, 2), 10);
        good(x.first(2), 2);
        good(x.firstAt(1, 0), 1);
        good(x.back(), 0);
        good(x.work(2), 3);
        good(x.fewest(2), 2);
        good(x.trustful(2), 2);
        good(x.rounds(2, 1), 2);
        good(x.curve(2, 2), 3);
        good(x.first(2), 2);
        good(x.firstAt(1, 0), 0);
    }

    public static void main(String[] args) throws IllegalAccessException {
        runAll(MarkEdgesTest.class);
    }
}
