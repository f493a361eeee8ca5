/** Promises 1 to 4 and the part "==== 5.": the new object, STATUS, the FRACTION, calls that are refused. */
public final class StatusEdgesTest extends Edges {
    private static final String NEW = "A MENU of no DISHES, POTS; nothing STANDS, no PLAN, MARKS; TRAYS are MISSING; "
            + "an empty tape; the FRACTION 0 by 1; STATUS 0.";
    /** x is NEEDED for p, p's partner q NEEDS y, and x's partner is y: only z can ever be made. */
    private static final String NEVER = "pots 1 1 1 1 1 1;dish y work 1;dish q work 1 from y;dish p work 1;pair p q;"
            + "dish x work 1 from p;pair x y;dish z work 1;";

    // ---- 1: a new object

    private static void new1NoDishes() {
        sentence(1, NEW);
        told(0, 0);
        no(x.dish(0, 0), 1);
        no(x.make(0), 1);
        good(x.needed(0), 0);
        no(x.needed(1), 1);
    }

    private static void new1NoPots() {
        sentence(1, "A MENU of no DISHES, POTS;");
        told(1, 0);
        no(x.pot(0), 6);
        good(x.fits(0), 1);
    }

    private static void new1NothingStands() {
        sentence(1, "nothing STANDS");
        told(2, 0);
        told(3, 0);
        told(4, 0);
        told(5, 0);
    }

    private static void new1NoPlan() {
        sentence(1, "no PLAN, MARKS");
        no(x.cook(NONE), 6);
        no(x.cook(0), 6);
        no(x.judged(), 6);
        no(x.odds(0, 0, 1), 6);
    }

    private static void new1NothingIsCookedOrSought() {
        sentence(1, NEW);
        for (int what = 0; what <= 6; what++) {
            no(x.cooked(what), 6);
        }
        no(x.firstAt(0, 0), 6);
    }

    private static void new1NoMarks() {
        sentence(1, "no PLAN, MARKS");
        no(x.back(), 6);
        good(x.mark(), 1);
    }

    private static void new1TraysAreMissing() {
        sentence(1, "TRAYS are MISSING");
        for (int t = 0; t < 4; t++) {
            no(x.read(t, 0), 2);
        }
    }

    private static void new1TheTapeIsEmpty() {
        sentence(1, "an empty tape");
        no(x.menu(1), 1);
        no(x.plan(1), 1);
        good(x.menu(0), 0);
        good(x.plan(0), 0);
        due(x.feed(0, 0, 0, 0, 0), 20);
    }

    private static void new1TheFraction() {
        sentence(1, "the FRACTION 0 by 1");
        due(x.top(), 0);
        due(x.bottom(), 1);
    }

    private static void new1TheStatus() {
        sentence(1, "STATUS 0.");
        due(x.status(), 0);
        due(x.fault(0), NONE);
        due(x.status(), 0);
    }

    private static void new1NothingIsSharedWithAnother() {
        sentence(1, NEW);
        kitchen("pots 1;dish a work 1;");
        planned("make a;");
        x.make(0);
        x.mark();
        x.tray(0, 0, 1);
        x.cook(NONE);
        x.first(1);
        yes(x.again(1));
        x.feed(0, 0, 0, 0, 0);
        no(x.told(9), 1);
        x = new FourPots();
        due(x.status(), 0);
        fraction(0, 1);
        due(x.fault(0), NONE);
        due(x.feed(0, 0, 0, 0, 0), 20);
        told(0, 0);
        told(2, 0);
        no(x.read(0, 0), 2);
        no(x.back(), 6);
        no(x.cook(NONE), 6);
        no(x.cooked(0), 6);
        no(x.firstAt(0, 0), 6);
    }

    private static void new1TheConstant() {
        sentence(1, "The constants: `NONE = -1`: None.");
        due(FourPots.NONE, -1);
    }

    private static void new1UsedFor512Calls() {
        sentence(1, "An object is used for at most 512 calls after it has been made; what later calls answer is free.");
        kitchen("pots 1;dish a work 99;");
        int calls = 3;
        for (int i = 0; calls + 2 <= 508; i++) {
            due(x.make(0), 1);
            due(x.wash(0), 0);
            calls += 2;
        }
        due(calls, 507);
        due(x.told(4), 252 * 99);
        due(x.told(5), 504);
        due(x.told(2), 0);
        due(x.status(), 0);
        due(x.make(0), 1);
    }

    // ---- 2: status

    private static void status2OfTheLatestCall() {
        sentence(2, "STATUS of the latest call that has one.");
        no(x.told(6), 1);
        due(x.status(), 1);
        due(x.status(), 1);
        due(x.read(0, 0), NONE);
        due(x.status(), 2);
        due(x.told(0), 0);
        due(x.status(), 0);
    }

    private static void status2SomeCallsHaveNone() {
        sentence(2, "status(), top(), bottom(), feed(), fault() have none.");
        for (int i = 0; i < 45; i++) {
            x.feed(0, 0, 0, 0, 0);
        }
        no(x.read(0, 0), 2);
        due(x.feed(0, 0, 0, 0, 0), NONE);
        due(x.status(), 2);
        due(x.top(), 0);
        due(x.status(), 2);
        due(x.bottom(), 1);
        due(x.status(), 2);
        due(x.fault(0), NONE);
        due(x.status(), 2);
        due(x.fault(9), NONE);
        due(x.status(), 2);
        no(x.menu(900), 9);
        due(x.feed(0, 0, 0, 0, 0), 20);
        due(x.fault(0), 1);
        due(x.status(), 9);
    }

    private static void status2WithoutAnyElseZero() {
        sentence(2, "0 else.");
        kitchen("pots 1 1;dish a work 1;dish b work 1 from a;");
        no(x.make(1), 7);
        due(x.make(0), 1);
        due(x.status(), 0);
        no(x.make(0), 7);
        yes(x.empty());
        due(x.status(), 0);
    }

    private static void status2SetsWithOthers() {
        sentence(2, "1 a number that can't be; no such TRAY, DISH, a set with others.");
        kitchen("pots 1 1;dish a work 1;dish b work 1 from a;");
        planned("make a;");
        for (int set : new int[] {4, 5, 8, 4096, -1, -4, Integer.MIN_VALUE, Integer.MAX_VALUE, 1 << 30}) {
            no(x.fits(set), 1);
            no(x.needed(set), 1);
            no(x.work(set), 1);
            no(x.steps(set), 1);
            no(x.first(set), 1);
            no(x.fewest(set), 1);
            no(x.curve(set, 2), 1);
            no(x.trustful(set), 1);
            no(x.bound(set), 1);
            no(x.rounds(set, 1), 1);
            no(x.spared(set, 1), 1);
            no(x.again(set), 1);
            no(x.odds(set, 0, 1), 1);
        }
    }

    private static void status2NoSuchDish() {
        sentence(2, "1 a number that can't be; no such TRAY, DISH, a set with others.");
        kitchen("pots 1 1;dish a work 1;dish b work 1 from a;");
        for (int dish : new int[] {-1, 2, 12, 31, 32, 33, Integer.MIN_VALUE, Integer.MAX_VALUE}) {
            no(x.dish(dish, 0), 1);
            no(x.make(dish), 1);
            no(x.pourOver(dish, 0), 1);
            no(x.pourOver(1, dish), 1);
            no(x.wash(dish), 1);
            no(x.trust(dish), 1);
            no(x.show(dish), 1);
            no(x.keeps(dish), 1);
            no(x.treeRule(dish), 1);
        }
    }

    private static void status2TheFirstThatHolds() {
        sentence(2, "STATUS of a call is the first of these that holds:");
        no(x.cook(10000), 1);
        no(x.cook(-2), 1);
        no(x.odds(0, 0, 31), 1);
        no(x.odds(1, 0, 1), 1);
        no(x.cooked(7), 1);
        no(x.firstAt(0, 3), 1);
        no(x.firstAt(-1, -1), 1);
        kitchen(NEVER);
        no(x.dish(5, 7), 1);
        no(x.dish(4, 9), 1);
        no(x.curve(1, 13), 1);
        no(x.rounds(1, 5), 1);
        no(x.rounds(32, 1), 1);
        no(x.spared(1, 10), 1);
        no(x.spared(32, 1), 1);
        no(x.again(32), 1);
        no(x.keeps(5), 1);
        kitchen(dishes(9));
        no(x.trustful(512), 1);
        no(x.trustful(511), 4);
    }

    private static void status2AFaultIsTheLast() {
        sentence(2, "9 a FAULT. 0 else.");
        feedText("x");
        no(x.menu(21), 1);
        no(x.menu(20), 9);
        feedText("x".repeat(301));
        no(x.plan(301), 1);
        no(x.plan(300), 9);
    }

    private static void status2OneTooMany() {
        sentence(2, "4 one too many.");
        kitchen(dishes(9));
        no(x.trustful(511), 4);
        for (int i = 0; i < 3; i++) {
            x.mark();
        }
        no(x.mark(), 4);
    }

    private static void status2OfTraysAsNoCallReadsThem() {
        sentence(2, "5 a number in a TRAY that can't be. 6 there is none such. 7 it can't be. 8 TRAYS are of "
                + "unlike sorts.");
        // No promise has 5 in its brackets: whatever a TRAY has in it, no call asks it.
        x.tray(0, 3, 1);
        yes(x.write(0, 0, Long.MIN_VALUE));
        good(x.read(0, 0), Long.MIN_VALUE);
        x.tray(1, 0, 1);
        no(x.pour(0, 0, 1, 0, 1), 8);
        no(x.back(), 6);
        kitchen("dish a work 1;");
        no(x.make(0), 7);
    }

    // ---- 3, 4: top, bottom

    /** The first draw of a seed, as the document tells it. */
    private static int firstDraw(int seed) {
        return (seed * 2903 + 8819) % 65536 / 8 % 16;
    }

    private static int notBurnt(int burns, int from, int many) {
        int count = 0;
        for (int seed = from; seed < from + many; seed++) {
            count += firstDraw(seed) < burns ? 0 : 1;
        }
        return count;
    }

    private static int divisor(int a, int b) {
        return b == 0 ? a : divisor(b, a % b);
    }

    private static void top3WithoutACommonDivisor() {
        sentence(3, "FRACTIONS are told by top() and bottom() without a common divisor, the bottom above 0; "
                + "0 is 0 by 1.");
        kitchen("pots 1;dish a work 1 burns 8;");
        planned("make a;");
        for (int many = 1; many <= 30; many++) {
            yes(x.odds(1, 0, many));
            int count = notBurnt(8, 0, many);
            int common = divisor(many, count);
            fraction(count / common, many / common);
        }
    }

    private static void top3ZeroIsZeroByOne() {
        sentence(3, "0 is 0 by 1.");
        kitchen("pots 1;dish a work 1;dish b work 1;");
        planned("make a;");
        yes(x.odds(1, 0, 30));
        fraction(1, 1);
        yes(x.odds(2, 0, 30));
        fraction(0, 1);
        yes(x.odds(2, 0, 1));
        fraction(0, 1);
    }

    private static void top3ToldLatest() {
        sentence(3, "The top of the FRACTION told latest.");
        kitchen("pots 1 1 1;dish a work 2 once;dish b work 1 from a;dish c work 1 from a;");
        yes(x.again(6));
        due(x.top(), 3);
        planned("make b;");
        due(x.top(), 3);
        yes(x.odds(2, 0, 7));
        due(x.top(), 0);
        yes(x.again(2));
        due(x.top(), 1);
    }

    private static void top3ARefusedCallLeavesIt() {
        sentence(3, "With another STATUS than 0 a call gives NONE, or false, and changes nothing else");
        kitchen("pots 1 1 1;dish a work 2 once;dish b work 1 from a;dish c work 1 from a;");
        yes(x.again(6));
        no(x.again(0), 6);
        fraction(3, 2);
        no(x.again(8), 1);
        fraction(3, 2);
        no(x.odds(1, 0, 1), 6);
        fraction(3, 2);
        no(x.odds(1, 0, 0), 1);
        fraction(3, 2);
    }

    private static void bottom4AboveZero() {
        sentence(4, "Its bottom, above 0.");
        due(x.bottom(), 1);
        kitchen("pots 1 1 1;dish a work 2 once;dish b work 1 from a;dish c work 1 from a;");
        yes(x.again(6));
        due(x.bottom(), 2);
        no(x.again(0), 6);
        due(x.bottom(), 2);
        planned("make b;");
        yes(x.odds(2, 0, 7));
        due(x.bottom(), 1);
    }

    private static void bottom4ThirtyIsTheGreatestOfOdds() {
        sentence(4, "the bottom above 0");
        kitchen("pots 1;dish a work 1 burns 7;");
        planned("make a;");
        int from = 0;
        while (divisor(30, notBurnt(7, from, 30)) != 1) {
            from++;
        }
        yes(x.odds(1, from, 30));
        fraction(notBurnt(7, from, 30), 30);
    }

    public static void main(String[] args) throws IllegalAccessException {
        runAll(StatusEdgesTest.class);
    }
}
