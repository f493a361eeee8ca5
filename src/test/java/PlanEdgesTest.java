import java.util.Arrays;

/** Promises 11 and 37 to 40, sentence by sentence: the PLAN's text, its FAULTS, how it is COOKED. */
public final class PlanEdgesTest extends Edges {
    private static final String FORM = "PLAN: {STEP}. STEP: make NAME ; or pour NAME over NAME ; or wash NAME ; or trust NAME "
            + "; or show NAME ; or when TEST ; {STEP} end ; or loop NUMBER ; {STEP} end ; or stop ; TEST: stands NAME, or "
            + "trusted NAME, or full NUMBER. (NAMES are the MENU's DISHES.)";
    private static final String LIMITS = "at most 300 STEPS that make, pour, wash, trust or show (these age what KEEPS, "
            + "whether they could be done or not), at most 900 of all (when, loop count as one each time they are come to "
            + "from ahead; end does not).";
    private static final String BURNING = "make, pour: its WORK is done, then a draw by 16 for each DISH of it (of a PAIR the "
            + "lesser number first), if it BURNS at all: less than BURNS: it is not there (what it NEEDS that is once, what "
            + "it was POURED over is gone all the same).";
    private static final String TESTS = "when stands: it STANDS, trusted: it is TRUSTED, full n: at least n DISHES STAND: the "
            + "STEPS up to its end are done.";
    private static final String DRAWS = "Draws: s, at first the seed, becomes what is left of s times 2,903 and 8,819 by "
            + "65,536; the draw is the rest of s by 8, rounded down, by 16.";
    private static final String COOKED = "Of cook() latest with STATUS 0, what 0: WORK, 1: STEPS that make, pour, wash, trust "
            + "or show, 2: how many were MISSED, 3: the most DISHES that STOOD behind one of them, 4: what is TRUSTED, "
            + "5: how many burnt, 6: how many were SPOILT (1; 6: there was none).";
    private static final String TWO = "pots 1 1;dish a work 1;dish b work 2 from a;";
    private static final String EMPTY_WHEN = "when full 9;end;";

    private static void dueCooked(long... want) {
        for (int what = 0; what < want.length; what++) {
            good(x.cooked(what), want[what]);
        }
    }

    // ---- 11: plan, and the text of a PLAN

    private static void plan11NoneAtFirst() {
        sentence(11, "A PLAN is a TEXT of at most 300 bytes, of such TOKENS (none at first).");
        kitchen(TWO);
        no(x.cook(NONE), 6);
        no(x.judged(), 6);
        no(x.odds(1, 0, 1), 6);
        goodPlan("", 0);
        good(x.cook(NONE), 0);
        no(x.judged(), 6);
        yes(x.odds(1, 0, 1));
    }

    private static void plan11TheTapeIsEmptyThen() {
        sentence(11, "Likewise the PLAN: how many STEPS (1: above 300, too; 9).");
        kitchen(TWO);
        feedText("make a;make b;");
        good(x.plan(7), 1);
        due(x.feed(0, 0, 0, 0, 0), 20);
        good(x.plan(0), 0);
        no(x.plan(1), 1);
        planFault("make ^z;", 3);
        no(x.plan(1), 1);
        due(x.feed(0, 0, 0, 0, 0), 20);
    }

    private static void plan11BelowZeroOrMoreThanTheTape() {
        sentence(11, "(1: above 300, too; 9)");
        kitchen(TWO);
        no(x.plan(1), 1);
        feedText("make a;");
        for (int n : new int[] {-1, 21, 300, 301, Integer.MIN_VALUE, Integer.MAX_VALUE}) {
            no(x.plan(n), 1);
        }
        good(x.plan(7), 1);
    }

    private static void plan11ThreeHundredBytesAndOneMore() {
        sentence(11, "A PLAN is a TEXT of at most 300 bytes");
        kitchen(TWO);
        String text = "make a;" + " ".repeat(286) + "make b;";
        goodPlan(text, 2);
        good(x.cook(NONE), 3);
        feedText(text + " ");
        no(x.plan(301), 1);
        no(x.plan(320), 1);
        good(x.cook(NONE), 3);
        good(x.plan(300), 2);
    }

    private static void plan11InPlaceOfThatAhead() {
        sentence(11, "Likewise the PLAN: how many STEPS");
        kitchen(TWO);
        x.make(0);
        goodPlan("make a;make b;", 2);
        goodPlan("trust b;", 1);
        good(x.cook(NONE), 2);
        planFault("loop 3;make a;^", 2);
        good(x.cook(NONE), 2);
        told(2, 1);
        told(0, 2);
    }

    private static void plan11EachStepOnce() {
        sentence(11, FORM);
        kitchen(TWO);
        goodPlan("make a;", 1);
        goodPlan("pour b over a;", 1);
        goodPlan("wash a;", 1);
        goodPlan("trust a;", 1);
        goodPlan("show a;", 1);
        goodPlan("when stands a;end;", 1);
        goodPlan("when trusted a;end;", 1);
        goodPlan("when full 0;end;", 1);
        goodPlan("loop 1;end;", 1);
        goodPlan("stop;", 1);
        goodPlan(" \n", 0);
        goodPlan("pour a over a;when full 12;loop 99;when trusted b;stop;end;end;end;make b;", 6);
        goodPlan("loop2;make\na;end\n;", 2);
    }

    private static void plan11NamesAreTheMenus() {
        sentence(11, "(NAMES are the MENU's DISHES.)");
        kitchen(TWO);
        goodPlan("make b;", 1);
        goodMenu("pots 1;dish c work 1;", 1);
        planFault("make ^b;", 3);
        goodPlan("make c;", 1);
        x = new FourPots();
        planFault("make ^a;", 3);
        goodPlan("when full 0;loop 3;end;stop;end;", 3);
    }

    private static void plan11NoTokenBeginsSo() {
        sentence(11, "FAULTS: 1, 2 as above");
        kitchen(TWO);
        planFault("^Make a;", 1);
        planFault("make ^A;", 1);
        planFault("make a^,", 1);
        planFault("make a;^\t", 1);
        planFault("loop ^00001;end;", 1);
        planFault("loop ^-1;end;", 1);
        planFault("when full ^12345;end;", 1);
        planFault("make ^12345;", 1);
        planFault("^\u00ff", 1);
    }

    private static void plan11ItCannotStandThere() {
        sentence(11, "FAULTS: 1, 2 as above");
        kitchen(TWO);
        for (String word : "dish work size keeps burns from poured once pair pots over stands trusted full end".split(" ")) {
            planFault("^" + word + " a;", 2);
        }
        for (String word : "make wash trust show".split(" ")) {
            planFault(word + " ^;", 2);
            planFault(word + " ^1;", 2);
            planFault(word + " ^stop;", 2);
            planFault(word + " ^abcdefghi;", 2);
            planFault(word + " a ^b;", 2);
            planFault(word + " a ^1;", 2);
        }
        x = new FourPots();
        takeMenu(TWO);
        planFault("^;", 2);
        planFault("^1;", 2);
        planFault("^a;", 2);
        planFault("^abcdefghi;", 2);
        planFault("pour b ^;", 2);
        planFault("pour b ^a;", 2);
        planFault("pour ^over a;", 2);
        planFault("pour b over ^;", 2);
        planFault("pour b over ^over;", 2);
        planFault("pour b over a ^over;", 2);
        planFault("when ^;end;", 2);
        planFault("when ^a;end;", 2);
        planFault("when ^1;end;", 2);
        planFault("when stands ^1;end;", 2);
        planFault("when trusted ^full;end;", 2);
        planFault("when full ^a;end;", 2);
        planFault("when full 1 ^a;end;", 2);
        planFault("loop ^a;end;", 2);
        planFault("loop ^;end;", 2);
        planFault("loop 1 ^1;end;", 2);
        planFault("loop 1;end ^1;", 2);
        planFault("stop ^a;", 2);
        planFault("stop ^stop;", 2);
    }

    private static void plan11AnEndWithoutABeginning() {
        sentence(11, "(an end without a beginning; the text's end ahead of an end: 2)");
        kitchen(TWO);
        planFault("^end;", 2);
        planFault("make a;^end;", 2);
        planFault("loop 2;end;^end;", 2);
        planFault("loop 2;when full 1;end;end;^end", 2);
    }

    /** Cut behind each of its tokens a PLAN ends too early, but where no when or loop is open. */
    private static void plan11TheTextsEndAheadOfAnEnd() {
        sentence(11, "the text's end ahead of an end: 2");
        String text = "make a ; loop 2 ; when full 1 ; wash a ; end ; end ; pour b over a ; when stands a ; stop ; end ;";
        int[] steps = new int[text.length() + 1];
        steps[0] = 0;
        Arrays.fill(steps, 1, steps.length, NONE);
        steps["make a ;".length()] = 1;
        steps[text.indexOf(" pour")] = 4;
        steps[text.indexOf(" when stands")] = 5;
        steps[text.length()] = 7;
        for (int n = 0; n <= text.length(); n++) {
            if (n < text.length() && text.charAt(n) != ' ') {
                continue;
            }
            kitchen(TWO);
            for (String blanks : new String[] {"", "\n"}) {
                if (steps[n] == NONE) {
                    planFault(text.substring(0, n) + blanks + "^", 2);
                } else {
                    goodPlan(text.substring(0, n) + blanks, steps[n]);
                }
            }
        }
    }

    private static void plan11ANameThatIsNoDish() {
        sentence(11, "3 a NAME that is no DISH.");
        kitchen(TWO);
        planFault("make ^c;", 3);
        planFault("make ^aa;", 3);
        planFault("pour ^c over a;", 3);
        planFault("pour b over ^c;", 3);
        planFault("wash ^c;", 3);
        planFault("trust ^c;", 3);
        planFault("show ^c;", 3);
        planFault("when stands ^c;end;", 3);
        planFault("when trusted ^c;end;", 3);
    }

    private static void plan11ANumberThatCannotBe() {
        sentence(11, "4 a NUMBER that can't be (full 0 to 12, loop 1 to 99).");
        kitchen(TWO);
        goodPlan("when full 0;end;when full 12;end;when full 0012;end;", 3);
        planFault("when full ^13;end;", 4);
        planFault("when full ^9999;end;", 4);
        goodPlan("loop 1;end;loop 99;end;loop 0099;end;", 3);
        planFault("loop ^0;end;", 4);
        planFault("loop ^100;end;", 4);
    }

    private static void plan11AThirtyFirstStep() {
        sentence(11, "6 a 31st STEP (at its WORD; end is none).");
        kitchen(TWO);
        String thirty = "stop;".repeat(30);
        goodPlan(thirty, 30);
        for (String word : "make pour wash trust show when loop stop".split(" ")) {
            planFault(thirty + "^" + word + " a;", 6);
        }
        planFault(thirty + "^end;", 2);
        planFault(thirty + "^over;", 2);
        planFault(thirty + "^,", 1);
        goodPlan("loop 2;".repeat(3) + "stop;".repeat(27) + "end;end;end;", 30);
        planFault("loop 2;" + "stop;".repeat(29) + "end;^stop;", 6);
        planFault("loop 2;" + "stop;".repeat(29) + "^stop;end;", 6);
        goodPlan("loop 2;end;".repeat(20), 20);
    }

    private static void plan11WithinThreeOthers() {
        sentence(11, "7 a when, loop within three others (at its WORD).");
        kitchen(TWO);
        goodPlan("loop 2;when full 1;loop 2;stop;end;end;end;", 4);
        planFault("loop 2;when full 1;loop 2;^loop 2;end;end;end;end;", 7);
        planFault("loop 2;when full 1;loop 2;^when full 1;end;end;end;end;", 7);
        planFault("loop 2;loop 2;loop 2;^loop", 7);
        goodPlan("loop 2;loop 2;loop 2;end;loop 2;end;end;loop 2;loop 2;end;end;end;loop 2;end;", 7);
    }

    private static void plan11OfOneTokenTheLeastKind() {
        sentence(11, "FAULTS, the first along the text (of one TOKEN the least kind):");
        kitchen(TWO);
        String deep = "loop 2;loop 2;loop 2;" + "stop;".repeat(27);
        planFault(deep + "^loop 2;", 6);
        planFault(deep + "^when ,", 6);
        planFault("loop 2;loop 2;loop 2;^when ,", 7);
        planFault("make ^z ,", 3);
        planFault("loop ^100 ,", 4);
        planFault("pour ^z a;", 3);
    }

    // ---- 37: cook

    private static void cook37SeedsAndNone() {
        sentence(37, "COOKED by a seed (0 to 9,999) or without (nothing burns then; NONE), from nothing that STANDS: "
                + "STEP by STEP;");
        kitchen("pots 1 1;dish a work 1 burns 15;");
        planned("make a;");
        good(x.cook(NONE), 1);
        good(x.cook(0), 0);
        x.cook(9999);
        due(x.status(), 0);
        for (int seed : new int[] {-2, 10000, Integer.MIN_VALUE, Integer.MAX_VALUE}) {
            no(x.cook(seed), 1);
        }
    }

    private static void cook37NoPlan() {
        sentence(37, "COOKED by a seed, or without (NONE): what STANDS then (1; 6: no PLAN).");
        no(x.cook(NONE), 6);
        no(x.cook(10000), 1);
        kitchen(TWO);
        no(x.cook(0), 6);
        planFault("^end;", 2);
        no(x.cook(0), 6);
        planned("make a;");
        good(x.cook(0), 1);
        takeMenu(TWO);
        no(x.cook(0), 6);
    }

    private static void cook37FromNothingThatStands() {
        sentence(37, "from nothing that STANDS");
        kitchen(TWO);
        x.make(0);
        planned("make b;wash a;trust b;");
        good(x.cook(NONE), 2);
        good(x.cook(NONE), 2);
        dueCooked(0, 3, 2, 1, 2, 0, 0);
        told(2, 1);
        told(4, 1);
        told(5, 1);
    }

    private static void cook37ThreeHundredSteps() {
        sentence(37, LIMITS);
        kitchen("pots 1;dish a work 1;");
        // 297 STEPS leave a there, then it is washed, made, washed: the next one is the 301st.
        planned("loop 99;make a;wash a;make a;end;wash a;make a;");
        good(x.cook(NONE), 1);
        good(x.cooked(1), 299);
        planned("loop 99;make a;wash a;make a;end;wash a;make a;wash a;");
        good(x.cook(NONE), 0);
        good(x.cooked(1), 300);
        planned("loop 99;make a;wash a;make a;end;wash a;make a;wash a;make a;");
        good(x.cook(NONE), 0);
        good(x.cooked(1), 300);
        good(x.cooked(0), 2 + 98 + 1);
    }

    private static void cook37MissedOnesCountToThreeHundred() {
        sentence(37, LIMITS);
        kitchen("pots 1;dish a work 1;");
        planned("loop 99;wash a;show a;wash a;end;wash a;wash a;make a;");
        good(x.cook(NONE), 1);
        good(x.cooked(1), 300);
        good(x.cooked(2), 299);
        planned("loop 99;wash a;show a;wash a;end;wash a;wash a;wash a;make a;");
        good(x.cook(NONE), 0);
        good(x.cooked(1), 300);
        good(x.cooked(2), 300);
    }

    private static void cook37NineHundredOfAll() {
        sentence(37, "at most 900 of all");
        kitchen("pots 1;dish a work 1;");
        String most = "loop 99;" + EMPTY_WHEN.repeat(9) + "end;";
        planned(most + EMPTY_WHEN.repeat(7) + "make a;");
        good(x.cook(NONE), 1);
        planned(most + EMPTY_WHEN.repeat(8) + "make a;");
        good(x.cook(NONE), 0);
        good(x.cooked(1), 0);
    }

    private static void cook37AllKindsCountToNineHundred() {
        sentence(37, "at most 900 of all");
        kitchen("pots 1;dish a work 1;");
        String most = "loop 99;make a;wash a;" + EMPTY_WHEN.repeat(7) + "end;";
        planned(most + EMPTY_WHEN.repeat(7) + "make a;");
        good(x.cook(NONE), 1);
        good(x.cooked(1), 199);
        planned(most + EMPTY_WHEN.repeat(8) + "make a;");
        good(x.cook(NONE), 0);
        good(x.cooked(1), 198);
    }

    private static void cook37ComeToFromAhead() {
        sentence(37, "(when, loop count as one each time they are come to from ahead; end does not)");
        kitchen("pots 1;dish a work 1;");
        planned("loop 29;loop 29;" + EMPTY_WHEN + "end;end;loop 27;" + EMPTY_WHEN + "end;make a;");
        good(x.cook(NONE), 1);
        planned("loop 29;loop 29;" + EMPTY_WHEN + "end;end;loop 28;" + EMPTY_WHEN + "end;make a;");
        good(x.cook(NONE), 0);
        planned("loop 9;loop 99;end;end;make a;");
        good(x.cook(NONE), 1);
        planned("loop 8;loop 99;loop 99;end;end;end;make a;");
        good(x.cook(NONE), 1);
        planned("loop 99;loop 99;loop 99;end;end;end;make a;");
        good(x.cook(NONE), 0);
    }

    private static void cook37WhatCannotBeDoneIsLeftOut() {
        sentence(37, "What can't be done is left out, and counts as MISSED.");
        kitchen("pots 1 1;dish a work 5;dish b work 2 from a;dish c work 3 from a;");
        planned("make b;pour c over a;wash a;show a;trust a;trust a;make a;wash a;make c;make b;");
        good(x.cook(NONE), 5);
        dueCooked(3, 10, 8, 2, 1, 0, 0);
    }

    private static void cook37WhatIsMissedAges() {
        sentence(37, "(these age what KEEPS, whether they could be done or not)");
        kitchen("pots 1 1;dish a work 1 keeps 3;dish b work 1;");
        planned("make a;make a;wash b;");
        good(x.cook(NONE), 1);
        good(x.cooked(6), 0);
        planned("make a;make a;wash b;show b;");
        good(x.cook(NONE), 0);
        good(x.cooked(6), 1);
        planned("make a;when stands a;loop 3;when full 2;end;end;end;make b;wash b;");
        good(x.cook(NONE), 1);
    }

    private static void cook37TheWorkOfWhatBurns() {
        sentence(37, BURNING);
        kitchen("pots 1 1;dish a work 7 burns 15;");
        planned("make a;make a;make a;");
        // The draws of seed 0 are 14, 1, 5.
        good(x.cook(0), 0);
        dueCooked(21, 3, 0, 0, 0, 3, 0);
    }

    private static void cook37LessThanBurns() {
        sentence(37, "less than BURNS: it is not there");
        for (int burns = 0; burns <= 15; burns++) {
            kitchen("pots 1;dish a work 1 burns " + burns + ";");
            planned("make a;");
            // First draws: 14 of seed 0, 9 of 1, 4 of 2.
            good(x.cook(0), burns > 14 ? 0 : 1);
            good(x.cook(1), burns > 9 ? 0 : 1);
            good(x.cook(2), burns > 4 ? 0 : 1);
        }
    }

    private static void cook37BurnsOneOfSixteen() {
        sentence(37, "if it BURNS at all: less than BURNS: it is not there");
        kitchen("pots 1 1;dish a work 1 burns 1;dish b work 1 burns 14;");
        int nought = 0;
        while (next(nought) / 8 % 16 != 0) {
            nought++;
        }
        int one = 0;
        while (next(one) / 8 % 16 != 1) {
            one++;
        }
        planned("make a;");
        good(x.cook(nought), 0);
        good(x.cook(one), 1);
        // The draws of seed 0 are 14 and 1: the first is for a.
        planned("make a;make b;");
        good(x.cook(0), 1);
    }

    private static int next(int s) {
        return (int) ((s * 2903L + 8819) % 65536);
    }

    private static void cook37DrawsOneByOne() {
        sentence(37, DRAWS);
        kitchen("pots 1;dish a work 1 burns 8;");
        planned("loop 99;make a;wash a;end;");
        for (int seed : new int[] {0, 1, 2, 7, 4999, 8191, 8192, 9998, 9999}) {
            int burnt = 0;
            int s = seed;
            for (int i = 0; i < 99; i++) {
                s = next(s);
                burnt += s / 8 % 16 < 8 ? 1 : 0;
            }
            x.cook(seed);
            dueCooked(99, 198, burnt, burnt == 99 ? 0 : 1, 0, burnt, 0);
        }
    }

    private static void cook37EachTimeFromTheSeed() {
        sentence(37, "s, at first the seed");
        kitchen("pots 1;dish a work 1 burns 8;");
        planned("make a;");
        int[] first = new int[30];
        for (int seed = 0; seed < 30; seed++) {
            first[seed] = x.cook(seed);
            due(first[seed], next(seed) / 8 % 16 < 8 ? 0 : 1);
        }
        for (int seed = 29; seed >= 0; seed--) {
            good(x.cook(seed), first[seed]);
        }
    }

    private static void cook37NoDrawForWhatDoesNotBurn() {
        sentence(37, "if it BURNS at all");
        kitchen("pots 1 1 1 1;dish a work 1;dish b work 1 burns 14;dish c work 1 burns 0;dish d work 1 from b;");
        // Of seed 0 the draws are 14 and 1; what is missed draws nothing, either.
        due(next(next(0)) / 8 % 16, 1);
        planned("make a;make c;wash a;make d;make b;");
        good(x.cook(0), 6);
        planned("make b;make a;make c;make b;wash b;make b;");
        good(x.cook(0), 5);
        good(x.cooked(5), 1);
    }

    private static void cook37TheLesserOfAPairFirst() {
        sentence(37, "a draw by 16 for each DISH of it (of a PAIR the lesser number first)");
        // The draws of seed 0 are 14, then 1.
        kitchen("pots 1 1;dish a work 3 burns 14;dish b work 5 burns 2;pair a b;");
        for (String name : new String[] {"a", "b"}) {
            planned("make " + name + ";");
            good(x.cook(0), 1);
            dueCooked(5, 1, 0, 1, 0, 1, 0);
        }
        kitchen("pots 1 1;dish a work 3;dish b work 5 burns 14;pair b a;");
        planned("make a;");
        good(x.cook(0), 3);
        kitchen("pots 1 1;dish a work 3 burns 15;dish b work 5 burns 2;pair b a;");
        planned("make a;");
        good(x.cook(0), 0);
        dueCooked(5, 1, 0, 0, 0, 2, 0);
    }

    private static void cook37WhatIsUsedUpIsGoneAllTheSame() {
        sentence(37, "(what it NEEDS that is once, what it was POURED over is gone all the same)");
        kitchen("pots 1 1 1;dish a work 1 once;dish b work 1;dish c work 1 burns 15 from a b;"
            + "dish d work 1 burns 15 from a b poured;");
        planned("make a;make b;make c;");
        good(x.cook(0), 2);
        good(x.cooked(5), 1);
        planned("make a;make b;pour d over b;");
        good(x.cook(0), 0);
        dueCooked(3, 3, 0, 2, 0, 1, 0);
        good(x.cook(NONE), 8);
    }

    private static void cook37WhenStands() {
        sentence(37, TESTS);
        kitchen("pots 1 1 1;dish a work 1;dish b work 1;dish c work 1;");
        planned("when stands a;make c;end;make b;");
        good(x.cook(NONE), 2);
        planned("make a;when stands a;make c;end;make b;");
        good(x.cook(NONE), 7);
        planned("trust a;when stands a;make c;end;");
        good(x.cook(NONE), 5);
    }

    private static void cook37WhenTrusted() {
        sentence(37, "trusted: it is TRUSTED");
        kitchen("pots 1 1 1;dish a work 1;dish b work 1;dish c work 1;");
        planned("when trusted a;make c;end;");
        good(x.cook(NONE), 0);
        planned("make a;when trusted a;make c;end;");
        good(x.cook(NONE), 1);
        planned("trust a;when trusted a;make c;end;");
        good(x.cook(NONE), 5);
        planned("trust a;show a;when trusted a;make c;end;");
        good(x.cook(NONE), 0);
    }

    private static void cook37WhenFull() {
        sentence(37, "full n: at least n DISHES STAND");
        kitchen("pots 1 1 1 1 1 1 1 1;" + dishes(9));
        String made = "make aa;make ba;trust ca;";
        for (int n = 0; n <= 12; n++) {
            planned(made + "when full " + n + ";make ia;end;");
            good(x.cook(NONE), n <= 3 ? 7 + 256 : 7);
        }
        planned("when full 0;make aa;end;when full 1;make ba;end;when full 3;make ca;end;");
        good(x.cook(NONE), 3);
    }

    private static void cook37WhatIsWithinAWhen() {
        sentence(37, "the STEPS up to its end are done.");
        kitchen("pots 1 1 1;dish a work 1;dish b work 1;dish c work 1;");
        planned("when full 1;make a;loop 2;make b;end;when full 0;make c;end;end;");
        good(x.cook(NONE), 0);
        good(x.cooked(1), 0);
        planned("when full 0;make a;when full 2;make b;end;end;make c;");
        good(x.cook(NONE), 5);
    }

    private static void cook37WithinAWhenOnce() {
        sentence(37, "the STEPS up to its end are done.");
        kitchen("pots 1 1 1;dish a work 1;dish b work 1;dish c work 1;");
        planned("when full 0;make a;when stands a;make b;wash b;end;end;when full 1;make c;end;");
        good(x.cook(NONE), 5);
        dueCooked(3, 4, 0, 2, 0, 0, 0);
    }

    private static void cook37LoopAsOften() {
        sentence(37, "loop n: as often.");
        kitchen("pots 1;dish a work 1;");
        for (int n : new int[] {1, 2, 98, 99}) {
            planned("loop " + n + ";make a;wash a;end;");
            good(x.cook(NONE), 0);
            good(x.cooked(1), 2 * n);
        }
        planned("loop 3;loop 4;loop 5;make a;end;end;end;");
        good(x.cook(NONE), 1);
        good(x.cooked(1), 60);
        planned("loop 2;loop 3;make a;end;wash a;end;loop 2;wash a;end;");
        good(x.cook(NONE), 0);
        good(x.cooked(1), 10);
    }

    private static void cook37StopIsTheEndOfAll() {
        sentence(37, "stop: all is over.");
        kitchen("pots 1 1;dish a work 1;dish b work 1;");
        planned("stop;make a;");
        good(x.cook(NONE), 0);
        planned("loop 9;make a;when full 1;loop 9;stop;end;end;make b;end;make b;");
        good(x.cook(NONE), 1);
        good(x.cooked(1), 1);
        planned("when full 1;stop;end;make a;");
        good(x.cook(NONE), 1);
    }

    // ---- 38: cooked

    private static void cooked38ThereWasNone() {
        sentence(38, "(1; 6: there was none)");
        no(x.cooked(0), 6);
        no(x.cooked(7), 1);
        no(x.cooked(-1), 1);
        kitchen(TWO);
        planned("make a;");
        no(x.cook(10000), 1);
        x.judged();
        x.odds(1, 0, 1);
        no(x.cooked(0), 6);
        x.cook(NONE);
        good(x.cooked(0), 1);
        for (int what : new int[] {-1, 7, Integer.MIN_VALUE, Integer.MAX_VALUE}) {
            no(x.cooked(what), 1);
        }
    }

    private static void cooked38OfNothing() {
        sentence(38, COOKED);
        planned("");
        good(x.cook(NONE), 0);
        dueCooked(0, 0, 0, 0, 0, 0, 0);
        planned("when full 0;loop 9;end;end;stop;");
        good(x.cook(0), 0);
        dueCooked(0, 0, 0, 0, 0, 0, 0);
    }

    private static void cooked38TheLatestWithStatusZero() {
        sentence(38, "Of cook() latest with STATUS 0");
        kitchen("pots 1 1;dish a work 5 burns 15;dish b work 3;");
        planned("make a;trust b;wash b;");
        good(x.cook(0), 2);
        long[] due = {5, 3, 1, 1, 2, 1, 0};
        dueCooked(due);
        no(x.cook(-2), 1);
        x.judged();
        x.odds(1, 0, 30);
        x.make(0);
        x.empty();
        planned("");
        dueCooked(due);
        x.mark();
        takeMenu("");
        no(x.cook(0), 6);
        dueCooked(due);
        x.back();
        dueCooked(due);
        good(x.cook(NONE), 0);
        dueCooked(0, 0, 0, 0, 0, 0, 0);
    }

    private static void cooked38TheMostBehindOneOfThem() {
        sentence(38, "3: the most DISHES that STOOD behind one of them");
        kitchen("pots 1 1 1 1 1 1 1 1;" + dishes(8) + "dish x work 1 keeps 1;dish y work 1 once;dish z work 1 from y;");
        planned("make aa;make ba;make ca;make da;make ea;make fa;make ga;trust ha;wash aa;wash ba;");
        good(x.cook(NONE), 252);
        good(x.cooked(3), 8);
        // x is gone at the end of that step in which aa is made, y in that in which z is made.
        planned("make x;make aa;");
        good(x.cook(NONE), 1);
        good(x.cooked(3), 1);
        planned("make y;make z;");
        good(x.cook(NONE), 1024);
        good(x.cooked(3), 1);
    }

    private static void cooked38HowManyWereSpoilt() {
        sentence(38, "6: how many were SPOILT");
        kitchen("pots 1 1 1;dish a work 1 keeps 1;dish b work 1 keeps 2;dish c work 1 keeps 99;");
        planned("make b;make a;make c;");
        good(x.cook(NONE), 4);
        good(x.cooked(6), 2);
        planned("trust a;make c;loop 49;trust b;show b;end;");
        good(x.cook(NONE), 5);
        good(x.cooked(6), 0);
        planned("trust a;make c;loop 49;trust b;show b;end;trust b;");
        good(x.cook(NONE), 3);
        good(x.cooked(6), 1);
        planned("make a;wash a;make a;wash a;");
        good(x.cook(NONE), 0);
        good(x.cooked(6), 0);
        good(x.cooked(2), 0);
    }

    private static void cooked38WhatIsTrusted() {
        sentence(38, "4: what is TRUSTED");
        kitchen("pots 1 1 1 1;" + dishes(12));
        planned("trust la;make aa;trust ba;");
        good(x.cook(NONE), 2048 + 3);
        good(x.cooked(4), 2048 + 2);
    }

    // ---- 39: judged

    private static void judged39NothingIsMissed() {
        sentence(39, "JUDGED (6: nothing is MISSED, no PLAN).");
        no(x.judged(), 6);
        kitchen(TWO);
        no(x.judged(), 6);
        planned("");
        no(x.judged(), 6);
        planned("make a;make b;");
        no(x.judged(), 6);
    }

    private static void judged39WhichOfThePlansSteps() {
        sentence(39, "JUDGED: the first STEP that is MISSED, COOKED without a seed: which of the PLAN's STEPS it is, in the "
                + "text.");
        kitchen(TWO);
        planned("make b;make b;");
        good(x.judged(), 0);
        planned("stop;make b;");
        no(x.judged(), 6);
        planned("loop 1;end;when full 0;end;make b;");
        good(x.judged(), 2);
        planned("when full 5;make b;wash b;end;loop 3;make a;end;");
        good(x.judged(), 4);
        planned("loop 2;make a;loop 2;make b;wash b;end;end;");
        good(x.judged(), 1);
        planned("make a;".concat("wash a;make a;".repeat(14)).concat("show a;"));
        good(x.judged(), 29);
    }

    private static void judged39WithoutASeed() {
        sentence(39, "COOKED without a seed");
        kitchen("pots 1 1;dish a work 1 burns 15;");
        planned("make a;wash a;");
        good(x.cook(0), 0);
        good(x.cooked(2), 1);
        no(x.judged(), 6);
        good(x.cooked(2), 1);
    }

    private static void judged39NotBehindTheLimits() {
        sentence(39, LIMITS);
        kitchen("pots 1 1;dish a work 1;");
        planned("loop 99;make a;wash a;make a;wash a;end;wash a;");
        no(x.judged(), 6);
        planned("loop 74;make a;wash a;make a;wash a;end;make a;wash a;make a;make a;");
        good(x.judged(), 8);
        planned("loop 75;make a;wash a;make a;wash a;end;wash a;");
        no(x.judged(), 6);
    }

    // ---- 40: odds

    private static void odds40OneToThirtySeeds() {
        sentence(40, "The FRACTION is with how many of so many seeds (1 to 30) from one on a GOAL STANDS, MADE, when all is "
                + "over (1: the last above 9,999, too; 6: no PLAN).");
        kitchen("pots 1;dish a work 1 burns 10;");
        planned("make a;");
        yes(x.odds(1, 0, 1));
        fraction(1, 1);
        yes(x.odds(1, 1, 1));
        fraction(0, 1);
        yes(x.odds(1, 0, 3));
        fraction(1, 3);
        int stands = 0;
        for (int seed = 100; seed < 130; seed++) {
            stands += next(seed) / 8 % 16 < 10 ? 0 : 1;
        }
        yes(x.odds(1, 100, 30));
        due(x.top() * 30, stands * x.bottom());
        for (int many : new int[] {0, 31, -1, Integer.MIN_VALUE, Integer.MAX_VALUE}) {
            no(x.odds(1, 0, many), 1);
        }
    }

    private static void odds40TheLastAbove9999() {
        sentence(40, "(1: the last above 9,999, too; 6: no PLAN)");
        kitchen("pots 1;dish a work 1;");
        planned("make a;");
        yes(x.odds(1, 9999, 1));
        no(x.odds(1, 9999, 2), 1);
        no(x.odds(1, 10000, 1), 1);
        yes(x.odds(1, 9970, 30));
        no(x.odds(1, 9971, 30), 1);
        no(x.odds(1, -1, 1), 1);
        no(x.odds(1, -1, 30), 1);
        no(x.odds(1, Integer.MAX_VALUE, 30), 1);
        no(x.odds(1, Integer.MIN_VALUE, 1), 1);
        no(x.odds(2, 0, 1), 1);
        no(x.odds(-1, 0, 1), 1);
    }

    private static void odds40NoPlan() {
        sentence(40, "6: no PLAN");
        no(x.odds(0, 0, 1), 6);
        no(x.odds(0, 0, 31), 1);
        kitchen(TWO);
        no(x.odds(1, 0, 1), 6);
        planned("");
        yes(x.odds(1, 0, 1));
        fraction(0, 1);
        yes(x.odds(0, 0, 1));
        fraction(1, 1);
    }

    private static void odds40ToNothing() {
        sentence(40, "a GOAL STANDS, MADE, when all is over");
        kitchen("pots 1 1;dish a work 1 burns 15;dish b work 1;");
        planned("make a;trust b;");
        yes(x.odds(0, 0, 30));
        fraction(1, 1);
        yes(x.odds(2, 0, 30));
        fraction(0, 1);
        planned("make b;");
        yes(x.odds(2, 0, 30));
        fraction(1, 1);
        yes(x.odds(3, 0, 30));
        fraction(0, 1);
        planned("make b;wash b;");
        yes(x.odds(2, 0, 30));
        fraction(0, 1);
    }

    private static void odds40LeavesWhatWasCooked() {
        sentence(40, "The FRACTION is with how many of so many seeds");
        kitchen("pots 1 1;dish a work 1 burns 8;");
        planned("make a;");
        good(x.cook(0), 1);
        yes(x.odds(1, 1, 30));
        dueCooked(1, 1, 0, 1, 0, 0, 0);
        told(2, 0);
    }

    public static void main(String[] args) throws IllegalAccessException {
        runAll(PlanEdgesTest.class);
    }
}
