import java.util.ArrayList;
import java.util.List;

/**
 * Of each promise the calls that are refused: two objects go the same way, one of them is asked what it must
 * refuse, and then both must answer alike whatever they are asked.
 */
public final class RefusedEdgesTest extends Edges {
    private static final String CHANGES_NOTHING =
            "With another STATUS than 0 a call gives NONE, or false, and changes nothing else (but menu(), plan() "
            + "with 9 the tape, and what fault() tells).";
    private static final int DISHES = 7;
    private static final int GOAL = 16;

    private interface Call {
        Object on(FourPots kitchen);
    }

    private static int tape(FourPots kitchen, String text) {
        FourPots kept = x;
        x = kitchen;
        int length = feedText(text);
        x = kept;
        return length;
    }

    /** By hand a and c are MADE and b is TRUSTED, so all POTS are full; the tape has a MENU of one DISH z. */
    private static FourPots rich(int marks, boolean plan, String text) {
        FourPots k = new FourPots();
        due(k.menu(tape(k, "pots 1 1 1;dish a work 5;dish b work 1 from a;dish c work 1 keeps 9;"
            + "dish d work 1 from b c poured;dish e work 1 from d a;dish f work 1 burns 3;dish g work 1;pair f g;")), DISHES);
        k.tray(0, 2, 3);
        k.tray(1, 0, 2);
        k.write(0, 1, 77);
        k.write(1, 1, -8);
        if (plan) {
            due(k.plan(tape(k, "make a;make c;trust b;show d;")), 4);
            due(k.cook(5), 7);
        }
        due(k.first(GOAL), 6);
        k.again(GOAL);
        k.make(0);
        for (int i = 0; i < marks; i++) {
            k.mark();
        }
        k.make(2);
        due(k.trust(1), 7);
        tape(k, text);
        return k;
    }

    private static void add(List<Long> all, FourPots k, long answer) {
        all.add(answer);
        all.add((long) k.status());
    }

    /** Whatever can be asked; the last questions change what they ask. */
    private static List<Long> probe(FourPots k, boolean tapeToo) {
        List<Long> all = new ArrayList<>();
        all.add(k.top());
        all.add(k.bottom());
        all.add(tapeToo ? k.fault(0) : 0L);
        all.add(tapeToo ? k.fault(1) : 0L);
        for (int w = 0; w < 6; w++) {
            add(all, k, k.told(w));
        }
        for (int d = 0; d < DISHES; d++) {
            for (int w = 0; w < 9; w += 2) {
                add(all, k, k.dish(d, w));
            }
            add(all, k, k.keeps(d));
        }
        for (int i = 0; i < 10; i++) {
            for (int w = 0; w < 3; w++) {
                add(all, k, k.firstAt(i, w));
            }
        }
        for (int t = 0; t < 4; t++) {
            for (int p = 0; p < 4; p++) {
                add(all, k, k.read(t, p));
            }
        }
        probeMore(all, k);
        all.add(tapeToo ? k.feed(0, 0, 0, 0, 0) : 0L);
        add(all, k, tapeToo ? k.menu(14) : 0);
        for (int i = 0; i < 4; i++) {
            add(all, k, k.back());
            add(all, k, k.told(2));
        }
        return all;
    }

    private static void probeMore(List<Long> all, FourPots k) {
        for (int w = 0; w < 7; w++) {
            add(all, k, k.cooked(w));
        }
        add(all, k, k.judged());
        add(all, k, k.cook(NONE));
        add(all, k, k.work(GOAL));
        add(all, k, k.fewest(GOAL));
        add(all, k, k.trustful(GOAL));
        add(all, k, k.make(0));
        add(all, k, k.wash(2));
        add(all, k, k.keeps(2));
    }

    private static void refused(int promise, Call... calls) {
        refused(promise, 3, true, calls);
    }

    private static void refused(int promise, int marks, boolean plan, Call... calls) {
        sentence(promise, CHANGES_NOTHING);
        for (Call call : calls) {
            compare(rich(marks, plan, "dish z work 7;"), rich(marks, plan, "dish z work 7;"), call, true);
        }
    }

    private static void compare(FourPots asked, FourPots spared, Call call, boolean tapeToo) {
        Object answer = call.on(asked);
        due(asked.status() == 0 ? 1 : 0, 0);
        boolean none = answer instanceof Boolean b ? !b : ((Number) answer).longValue() == NONE;
        due(none ? 1 : 0, 1);
        due(probe(asked, tapeToo).equals(probe(spared, tapeToo)) ? 1 : 0, 1);
    }

    private static void tray5Refused() {
        refused(5, k -> k.tray(0, 2, 61), k -> k.tray(0, 4, 1), k -> k.tray(4, 0, 1), k -> k.tray(2, 0, -1));
    }

    private static void write6Refused() {
        refused(6, k -> k.write(0, 3, 5), k -> k.write(0, -1, 5), k -> k.write(2, 0, 5), k -> k.write(4, 0, 5));
    }

    private static void read7Refused() {
        refused(7, k -> k.read(0, 3), k -> k.read(2, 0), k -> k.read(-1, 0));
    }

    private static void pour8Refused() {
        refused(8, k -> k.pour(0, 0, 1, 0, 1), k -> k.pour(0, 1, 0, 0, 3), k -> k.pour(0, 0, 0, 1, 3),
            k -> k.pour(0, 0, 2, 0, 1), k -> k.pour(0, -1, 0, 0, 1));
    }

    private static void menu10Refused() {
        refused(10, k -> k.menu(-1), k -> k.menu(21));
    }

    private static void menu10WithAFaultTheOldOneStays() {
        sentence(10, "9: the old one stays");
        for (String text : new String[] {"dish z work;", "dish z work 7;dish z work 7;", "pots 9 9;;"}) {
            compare(rich(3, true, text), rich(3, true, text), k -> k.menu(text.length()), false);
        }
    }

    private static void plan11Refused() {
        refused(11, k -> k.plan(-1), k -> k.plan(21));
    }

    private static void plan11Above300() {
        sentence(11, CHANGES_NOTHING);
        String text = "dish z work 7;".concat(" ".repeat(300));
        compare(rich(3, true, text), rich(3, true, text), k -> k.plan(301), true);
    }

    private static void plan11WithAFaultTheOldOneStays() {
        sentence(11, CHANGES_NOTHING);
        for (String text : new String[] {"make a;make z;", "loop 2;make a;", "make b;end;"}) {
            compare(rich(3, true, text), rich(3, true, text), k -> k.plan(text.length()), false);
        }
    }

    private static void told13Refused() {
        refused(13, k -> k.told(6), k -> k.told(-1));
    }

    private static void dish14Refused() {
        refused(14, k -> k.dish(7, 0), k -> k.dish(0, 9), k -> k.dish(0, 7));
    }

    private static void pot15Refused() {
        refused(15, k -> k.pot(3), k -> k.pot(-1));
    }

    private static void fits16Refused() {
        refused(16, k -> k.fits(128), k -> k.fits(-1));
    }

    private static void needed17Refused() {
        refused(17, k -> k.needed(128), k -> k.needed(-1));
    }

    private static void make18Refused() {
        refused(18, k -> k.make(0), k -> k.make(3), k -> k.make(5), k -> k.make(7), k -> k.make(-1));
    }

    private static void pourOver19Refused() {
        refused(19, k -> k.pourOver(3, 1), k -> k.pourOver(3, 0), k -> k.pourOver(4, 0), k -> k.pourOver(3, 7),
            k -> k.pourOver(7, 3));
    }

    private static void wash20Refused() {
        refused(20, k -> k.wash(1), k -> k.wash(3), k -> k.wash(7));
    }

    private static void trust21Refused() {
        refused(21, k -> k.trust(0), k -> k.trust(1), k -> k.trust(3), k -> k.trust(7));
    }

    private static void show22Refused() {
        refused(22, k -> k.show(0), k -> k.show(3), k -> k.show(7));
    }

    private static void keeps23Refused() {
        refused(23, k -> k.keeps(3), k -> k.keeps(7));
    }

    private static void work25Refused() {
        refused(25, k -> k.work(15), k -> k.work(128));
    }

    private static void steps26Refused() {
        refused(26, k -> k.steps(15), k -> k.steps(128));
    }

    private static void first27Refused() {
        refused(27, k -> k.first(15), k -> k.first(128), k -> k.first(-1));
    }

    private static void firstAt28Refused() {
        refused(28, k -> k.firstAt(0, 3), k -> k.firstAt(0, 2), k -> k.firstAt(99, 0), k -> k.firstAt(-1, 0));
    }

    private static void fewest29Refused() {
        refused(29, k -> k.fewest(128), k -> k.fewest(-1));
    }

    private static void curve30Refused() {
        refused(30, k -> k.curve(16, 2), k -> k.curve(16, 13), k -> k.curve(128, 3));
    }

    private static void trustful31Refused() {
        refused(31, k -> k.trustful(128), k -> k.trustful(-1));
    }

    private static void bound32Refused() {
        refused(32, k -> k.bound(128), k -> k.bound(-1));
    }

    private static void treeRule33Refused() {
        refused(33, k -> k.treeRule(4), k -> k.treeRule(5), k -> k.treeRule(7));
    }

    private static void rounds34Refused() {
        refused(34, k -> k.rounds(15, 4), k -> k.rounds(32, 4), k -> k.rounds(1, 5), k -> k.rounds(128, 1));
    }

    private static void spared35Refused() {
        refused(35, k -> k.spared(15, 9), k -> k.spared(16, 10), k -> k.spared(128, 1));
    }

    private static void again36Refused() {
        refused(36, k -> k.again(15), k -> k.again(0), k -> k.again(128));
    }

    private static void cook37Refused() {
        refused(37, k -> k.cook(10000), k -> k.cook(-2));
        refused(37, 3, false, k -> k.cook(0), k -> k.cook(NONE));
    }

    private static void cooked38Refused() {
        refused(38, k -> k.cooked(7), k -> k.cooked(-1));
        refused(38, 3, false, k -> k.cooked(0));
    }

    private static void judged39Refused() {
        refused(39, 3, false, k -> k.judged());
    }

    private static void odds40Refused() {
        refused(40, k -> k.odds(1, 9999, 2), k -> k.odds(1, 0, 31), k -> k.odds(128, 0, 1));
        refused(40, 3, false, k -> k.odds(1, 0, 1));
    }

    private static void mark41Refused() {
        refused(41, k -> k.mark());
    }

    private static void back42Refused() {
        refused(42, 0, true, k -> k.back());
    }

    public static void main(String[] args) throws IllegalAccessException {
        runAll(RefusedEdgesTest.class);
    }
}
