import java.nio.ByteBuffer;
import java.nio.IntBuffer;
import java.nio.charset.StandardCharsets;
import java.util.Arrays;

/** Each promise of the document by its number: ordinary inputs, the edges that it names, wrong inputs. */
public final class PromisesTest {
    private static final int NONE = FourPots.NONE;
    private static int promise;
    private static int wrong;
    private static FourPots x;

    // ---- what the promises share

    private static void due(String call, long got, long want) {
        if (got != want) {
            wrong++;
            System.out.println("promise " + promise + ": " + call + " answered " + got + ", due is " + want);
        }
    }

    private static void due(String call, boolean got, boolean want) {
        due(call, got ? 1 : 0, want ? 1 : 0);
    }

    /** The answer, and STATUS 0. */
    private static void good(String call, long got, long want) {
        due(call, got, want);
        due("status behind " + call, x.status(), 0);
    }

    private static void yes(String call, boolean got) {
        good(call, got ? 1 : 0, 1);
    }

    private static void no(String call, long got, int status) {
        due(call, got, NONE);
        due("status behind " + call, x.status(), status);
    }

    private static void no(String call, boolean got, int status) {
        due(call, got, false);
        due("status behind " + call, x.status(), status);
    }

    private static int feedText(String s) {
        byte[] bytes = s.getBytes(StandardCharsets.ISO_8859_1);
        IntBuffer ints = ByteBuffer.wrap(Arrays.copyOf(bytes, (bytes.length + 19) / 20 * 20)).asIntBuffer();
        while (ints.hasRemaining()) {
            x.feed(ints.get(), ints.get(), ints.get(), ints.get(), ints.get());
        }
        return bytes.length;
    }

    private static int takeMenu(String s) {
        return x.menu(feedText(s));
    }

    private static int takePlan(String s) {
        return x.plan(feedText(s));
    }

    private static void kitchen(String menu) {
        x = new FourPots();
        takeMenu(menu);
        due("taking " + menu, x.status(), 0);
    }

    private static void planned(String plan) {
        takePlan(plan);
        due("taking " + plan, x.status(), 0);
    }

    private static void menuFault(String menu, int kind, int place) {
        no("menu " + menu, takeMenu(menu), 9);
        due("fault(0) of " + menu, x.fault(0), kind);
        due("fault(1) of " + menu, x.fault(1), place);
    }

    private static void planFault(String plan, int kind, int place) {
        no("plan " + plan, takePlan(plan), 9);
        due("fault(0) of " + plan, x.fault(0), kind);
        due("fault(1) of " + plan, x.fault(1), place);
    }

    private static void goodMenu(String menu, int dishes) {
        good("menu " + menu, takeMenu(menu), dishes);
        due("fault(0) of " + menu, x.fault(0), 0);
        due("fault(1) of " + menu, x.fault(1), NONE);
    }

    private static void told(int what, long want) {
        good("told(" + what + ")", x.told(what), want);
    }

    private static void fraction(long upper, long lower) {
        due("top()", x.top(), upper);
        due("bottom()", x.bottom(), lower);
    }

    /** a, then b of a; c; d of b and c; e of d and a: with 3 POTS a must be made twice, with 4 once. */
    private static final String TWICE = "dish a work 5;dish b work 1 from a;dish c work 1;dish d work 1 from b c;"
            + "dish e work 1 from d a;";
    private static final String PYRAMID = "dish a work 1;dish b work 1;dish c work 1;dish d work 1 from a b;"
            + "dish e work 1 from b c;dish f work 1 from d e;";
    private static final String POURED_PYRAMID = "dish a work 1;dish b work 1;dish c work 1;"
            + "dish d work 1 from a b poured;dish e work 1 from b c poured;dish f work 1 from d e poured;";
    /** x is NEEDED for p, p's partner q NEEDS y, and x's partner is y: none of them can ever be made. */
    private static final String NEVER = "pots 1 1 1 1 1 1;dish y work 1;dish q work 1 from y;dish p work 1;pair p q;"
            + "dish x work 1 from p;pair x y;dish z work 1;";

    // ---- the promises

    private static void newObject() {
        x = new FourPots();
        due("status()", x.status(), 0);
        fraction(0, 1);
        for (int what = 0; what <= 5; what++) {
            told(what, 0);
        }
        due("fault(0)", x.fault(0), NONE);
        no("read(0, 0)", x.read(0, 0), 2);
        no("pot(0)", x.pot(0), 6);
        no("dish(0, 0)", x.dish(0, 0), 1);
        no("cook(NONE)", x.cook(NONE), 6);
        no("cooked(0)", x.cooked(0), 6);
        no("firstAt(0, 0)", x.firstAt(0, 0), 6);
        no("back()", x.back(), 6);
        no("menu(1)", x.menu(1), 1);
        good("menu(0)", x.menu(0), 0);
        due("NONE", FourPots.NONE, -1);
    }

    private static void status() {
        kitchen(TWICE);
        no("told(9)", x.told(9), 1);
        x.top();
        x.bottom();
        x.feed(0, 0, 0, 0, 0);
        x.fault(0);
        x.status();
        due("status()", x.status(), 1);
        told(0, 5);
        due("status()", x.status(), 0);
    }

    private static void topAndBottom() {
        kitchen("pots 1 1 1;dish a work 2 once;dish b work 1 from a;dish c work 1 from a;");
        fraction(0, 1);
        yes("again(6)", x.again(6));
        fraction(3, 2);
        no("again(0)", x.again(0), 6);
        fraction(3, 2);
        planned("make b;");
        yes("odds(2, 0, 7)", x.odds(2, 0, 7));
        fraction(0, 1);
    }

    private static void trayIsLaid() {
        x = new FourPots();
        yes("tray(0, 0, 0)", x.tray(0, 0, 0));
        yes("tray(3, 3, 60)", x.tray(3, 3, 60));
        good("read(3, 59)", x.read(3, 59), 0);
        no("read(0, 0)", x.read(0, 0), 3);
        no("tray(4, 0, 1)", x.tray(4, 0, 1), 1);
        no("tray(-1, 0, 1)", x.tray(-1, 0, 1), 1);
        no("tray(0, 4, 1)", x.tray(0, 4, 1), 1);
        no("tray(0, -1, 1)", x.tray(0, -1, 1), 1);
        no("tray(0, 0, 61)", x.tray(0, 0, 61), 1);
        no("tray(0, 0, -1)", x.tray(0, 0, -1), 1);
        yes("write(3, 1, 5)", x.write(3, 1, 5));
        yes("tray(3, 3, 2)", x.tray(3, 3, 2));
        good("read(3, 1)", x.read(3, 1), 0);
    }

    private static void writeCuts() {
        x = new FourPots();
        long v = 0x123456789ABCDEF0L;
        long[] cut = {(byte) 0xF0, (short) 0xDEF0, 0x9ABCDEF0, v};
        for (int sort = 0; sort < 4; sort++) {
            x.tray(sort, sort, 3);
            yes("write", x.write(sort, 2, v));
            good("read of sort " + sort, x.read(sort, 2), cut[sort]);
        }
        no("write(0, 3, 1)", x.write(0, 3, 1), 3);
        no("write(0, -1, 1)", x.write(0, -1, 1), 3);
        no("write(4, 0, 1)", x.write(4, 0, 1), 1);
        no("write(-1, 9, 1)", x.write(-1, 9, 1), 1);
        x = new FourPots();
        no("write(1, -1, 1)", x.write(1, -1, 1), 2);
    }

    private static void readTells() {
        x = new FourPots();
        x.tray(2, 1, 4);
        x.write(2, 3, -1);
        good("read(2, 3)", x.read(2, 3), -1);
        no("read(2, 4)", x.read(2, 4), 3);
        no("read(2, -1)", x.read(2, -1), 3);
        no("read(1, 0)", x.read(1, 0), 2);
        no("read(4, 0)", x.read(4, 0), 1);
        no("read(-1, 0)", x.read(-1, 0), 1);
    }

    private static void row(int tray, long... want) {
        for (int i = 0; i < want.length; i++) {
            good("read(" + tray + ", " + i + ")", x.read(tray, i), want[i]);
        }
    }

    private static void pourTrays() {
        x = new FourPots();
        x.tray(0, 2, 5);
        x.tray(1, 2, 3);
        x.tray(2, 3, 5);
        for (int i = 0; i < 5; i++) {
            x.write(0, i, i + 1);
        }
        yes("pour(0, 1, 1, 0, 3)", x.pour(0, 1, 1, 0, 3));
        row(1, 2, 3, 4);
        yes("pour(0, 0, 0, 1, 4)", x.pour(0, 0, 0, 1, 4));
        row(0, 1, 1, 2, 3, 4);
        yes("pour(0, 1, 0, 0, 4)", x.pour(0, 1, 0, 0, 4));
        row(0, 1, 2, 3, 4, 4);
        yes("pour(0, 5, 1, 3, 0)", x.pour(0, 5, 1, 3, 0));
        no("pour(0, 6, 1, 0, 0)", x.pour(0, 6, 1, 0, 0), 3);
        no("pour(0, 0, 1, 4, 0)", x.pour(0, 0, 1, 4, 0), 3);
        no("pour(0, 0, 1, 0, 4)", x.pour(0, 0, 1, 0, 4), 3);
        no("pour(1, 0, 0, 0, 4)", x.pour(1, 0, 0, 0, 4), 3);
        no("pour(0, 1, 1, 1, most)", x.pour(0, 1, 1, 1, Integer.MAX_VALUE), 3);
        no("pour(0, most, 1, 1, most)", x.pour(0, Integer.MAX_VALUE, 1, 1, Integer.MAX_VALUE), 3);
        no("pour(0, 0, 2, 0, 99)", x.pour(0, 0, 2, 0, 99), 8);
        no("pour(0, 0, 3, 0, 99)", x.pour(0, 0, 3, 0, 99), 2);
        no("pour(3, 0, 0, 0, 1)", x.pour(3, 0, 0, 0, 1), 2);
        no("pour(3, -1, 0, 0, 1)", x.pour(3, -1, 0, 0, 1), 1);
        no("pour(0, 0, 3, -1, 1)", x.pour(0, 0, 3, -1, 1), 1);
        no("pour(0, 0, 3, 0, -1)", x.pour(0, 0, 3, 0, -1), 1);
        no("pour(4, 0, 0, 0, 1)", x.pour(4, 0, 0, 0, 1), 1);
        no("pour(0, 0, -1, 0, 1)", x.pour(0, 0, -1, 0, 1), 1);
        row(0, 1, 2, 3, 4, 4);
    }

    private static void feedBytes() {
        x = new FourPots();
        for (int i = 1; i <= 45; i++) {
            due("feed " + i, x.feed(0x20202020, 0x0A0A0A0A, 0x20202020, 0x20202020, 0x20202020), 20 * i);
        }
        due("feed 46", x.feed(0, 0, 0, 0, 0), NONE);
        good("menu(900)", x.menu(900), 0);
        due("feed behind it", x.feed(0x706F7473, 0x20313233, 0x203B0000, 0xFFFFFFFF, 0x80000000), 20);
        no("menu(20)", x.menu(20), 9);
        due("fault(0)", x.fault(0), 4);
        due("fault(1)", x.fault(1), 5);
    }

    private static void menuIsTaken() {
        x = new FourPots();
        goodMenu("", 0);
        goodMenu(" \n ", 0);
        goodMenu("dish a work 1;", 1);
        no("menu(1) with an empty tape", x.menu(1), 1);
        feedText("dish b work 1;");
        no("menu(-1)", x.menu(-1), 1);
        no("menu(21)", x.menu(21), 1);
        good("menu(14), the tape is still there", x.menu(14), 1);
        goodMenu("dish\nab work0size9keeps99burns15;dish c work 99 from ab poured once;pots9 1;", 2);
        goodMenu("pots 0001;dish a work 0099;", 1);
        goodMenu("dish a work 1;dish b work 1;pair a b;", 2);
        goodMenu("dish abcdefgh work 1;dish dishes work 1;", 2);
        x.make(0);
        x.mark();
        menuFault("dish a work 1;dish", 2, 18);
        told(0, 2);
        due("the tape is empty", x.feed(0, 0, 0, 0, 0), 20);
        x.menu(0);
        told(0, 0);
        told(2, 0);
        kitchen("pots 1;dish a work 3;");
        x.make(0);
        planned("make a;");
        x.cook(NONE);
        goodMenu("pots 1;dish b work 3;", 1);
        told(2, 0);
        told(4, 0);
        told(5, 0);
        no("cook() without a plan", x.cook(NONE), 6);
        good("cooked(0) of the latest cook()", x.cooked(0), 3);
    }

    private static void planIsTaken() {
        kitchen("pots 1 1;dish a work 1;dish b work 2 from a;");
        good("plan", takePlan("make a;pour b over a;wash a;trust a;show a;when stands a;when trusted b;"
                + "when full 12;stop;end;end;end;loop 99;end;"), 10);
        due("fault(0)", x.fault(0), 0);
        due("fault(1)", x.fault(1), NONE);
        good("plan of no steps", takePlan(""), 0);
        good("cook() of it", x.cook(NONE), 0);
        no("plan(1) with an empty tape", x.plan(1), 1);
        feedText("make a;");
        no("plan(-1)", x.plan(-1), 1);
        no("plan(21)", x.plan(21), 1);
        good("plan(7)", x.plan(7), 1);
        for (int i = 0; i < 20; i++) {
            x.feed(0x20202020, 0x20202020, 0x20202020, 0x20202020, 0x20202020);
        }
        no("plan(301)", x.plan(301), 1);
        good("plan(300)", x.plan(300), 0);
        planned("make a;");
        planFault("make a;make c;", 3, 12);
        good("cook() of the old one", x.cook(NONE), 1);
        due("the tape is empty", x.feed(0, 0, 0, 0, 0), 20);
        x.plan(0);
        planned("make a;make a;make a;make a;make a;make a;make a;make a;make a;make a;make a;make a;make a;"
                + "make a;make a;make a;make a;make a;make a;make a;make a;make a;make a;make a;make a;make a;"
                + "make a;make a;make a;stop;");
    }

    private static void faults() {
        x = new FourPots();
        due("fault(0) ahead of any", x.fault(0), NONE);
        due("fault(1) ahead of any", x.fault(1), NONE);
        x.menu(5);
        due("fault(0) behind STATUS 1", x.fault(0), NONE);
        goodMenu("dish a work 1;", 1);
        due("fault(2)", x.fault(2), NONE);
        due("fault(-1)", x.fault(-1), NONE);
        menuFault("Dish a work 1;", 1, 0);
        menuFault("dish a work 1, ", 1, 13);
        menuFault("dish a work 12345;", 1, 12);
        menuFault("dish a work 1;\t", 1, 14);
        menuFault("dish a work x ,", 2, 12);
        menuFault("dish 12345", 1, 5);
        menuFault("dish a 1;", 2, 7);
        menuFault("dish a;", 2, 6);
        menuFault("dish a size 1;", 2, 7);
        menuFault("dish a work;", 2, 11);
        menuFault(";".repeat(900), 2, 0);
        menuFault("dish a work 1 keeps 2 size 1;", 2, 22);
        menuFault("dish a work 1 burns 2 keeps 1;", 2, 22);
        menuFault("dish a work 1 from ;", 2, 19);
        menuFault("dish a work 1;dish b work 1 from a size;", 2, 35);
        menuFault("dish a work 1;dish b work 1 from a 3;", 2, 35);
        menuFault("dish a work 1;dish b work 1 from a abcdefghi;", 2, 35);
        menuFault("dish stop work 1;", 2, 5);
        menuFault("a;", 2, 0);
        menuFault(";", 2, 0);
        menuFault("pots ;", 2, 5);
        menuFault("pots 1 a;", 2, 7);
        menuFault("dish a work 1;pair a", 2, 20);
        menuFault("dish a work 1;pair a ;", 2, 21);
        menuFault("dish a work 1", 2, 13);
        menuFault("dish a work 1;dish a work 1;", 3, 19);
        menuFault("dish a work 1 from a;", 3, 19);
        menuFault("dish a work 1 from b;dish b work 1;", 3, 19);
        menuFault("pair a b;", 3, 5);
        menuFault("dish a work 100;", 4, 12);
        menuFault("dish a work 1 size 0;", 4, 19);
        menuFault("dish a work 1 size 10;", 4, 19);
        menuFault("dish a work 1 keeps 0;", 4, 20);
        menuFault("dish a work 1 keeps 100;", 4, 20);
        menuFault("dish a work 1 burns 16;", 4, 20);
        menuFault("pots 10;", 4, 5);
        menuFault("pots 1 1 1 1 1 1 1 1 0;", 4, 21);
        menuFault("dish a work 1;dish b work 1 from a a;", 5, 35);
        menuFault("pots 1;pots 1;", 5, 7);
        menuFault("dish a work 1;pair a a;", 5, 21);
        menuFault("dish a work 1;dish b work 1;dish c work 1;pair a b;pair c a;", 5, 58);
        menuFault("dish a work 1;dish b work 1;dish c work 1;pair a b;pair a c;", 5, 56);
        menuFault("dish a work 1;dish b work 1 from a;dish c work 1 from b;pair a c;", 5, 63);
        menuFault("dish a work 1;dish b work 1 from a;dish c work 1 from b;pair c a;", 5, 63);
        menuFault("pots 1 1 1 1 1 1 1 1 1;", 6, 21);
        menuFault("pots 9 9 9 9 9 9 9 9 9;", 6, 21);
        menuFault(dishes(12) + "dish", 6, 12 * 15);
        menuFault("dish a work 1 poured;", 7, 14);
        goodMenu(dishes(12) + "pots 1 1 1 1 1 1 1 1;", 12);
        planFaults();
    }

    private static String dishes(int many) {
        StringBuilder s = new StringBuilder();
        for (int i = 0; i < many; i++) {
            s.append("dish ").append((char) ('a' + i)).append("a work 1;");
        }
        return s.toString();
    }

    private static void planFaults() {
        kitchen("pots 1 1;dish a work 1;dish b work 2 from a;");
        planFault("make a,", 1, 6);
        planFault("loop 12345;", 1, 5);
        planFault("make a", 2, 6);
        planFault("make ;", 2, 5);
        planFault("make 1;", 2, 5);
        planFault("make make;", 2, 5);
        planFault("make abcdefghi;", 2, 5);
        planFault("pour b a;", 2, 7);
        planFault("dish a work 1;", 2, 0);
        planFault("a;", 2, 0);
        planFault("when a;end;", 2, 5);
        planFault("when full a;end;", 2, 10);
        planFault("loop a;end;", 2, 5);
        planFault("end;", 2, 0);
        planFault("loop 2;end;end;", 2, 11);
        planFault("loop 2;make a;", 2, 14);
        planFault("stop a;", 2, 5);
        planFault("loop 2;end", 2, 10);
        planFault("make c;", 3, 5);
        planFault("pour b over c;", 3, 12);
        planFault("when stands c;end;", 3, 12);
        planFault("when full 13;end;", 4, 10);
        planFault("loop 0;end;", 4, 5);
        planFault("loop 100;end;", 4, 5);
        StringBuilder s = new StringBuilder();
        for (int i = 0; i < 30; i++) {
            s.append("stop;");
        }
        good("30 steps", takePlan(s.toString()), 30);
        planFault(s + "stop;", 6, 150);
        planFault(s + "end;", 2, 150);
        planFault(s + "over", 2, 150);
        planFault("loop 2;loop 2;when full 1;loop 2;", 7, 26);
        planFault("loop 2;loop 2;when full 1;when stands z;", 7, 26);
        good("three deep", takePlan("loop 2;loop 2;when full 1;make a;end;end;end;loop 2;end;"), 5);
        planFault("loop 2;loop 2;loop 2;" + s.substring(0, 27 * 5) + "loop 2;", 6, 21 + 27 * 5);
    }

    private static void toldByHand() {
        kitchen("pots 1 1 1;dish a work 3;dish b work 5;");
        told(0, 2);
        told(1, 3);
        x.make(0);
        x.trust(1);
        told(2, 3);
        told(3, 2);
        told(4, 3);
        told(5, 2);
        no("told(6)", x.told(6), 1);
        no("told(-1)", x.told(-1), 1);
    }

    private static void dishIsTold() {
        kitchen("dish a work 99;dish b work 0 size 9 keeps 7 burns 15 from a poured once;dish c work 1 from b a;"
                + "dish d work 2;pair c d;");
        long[] b = {0, 9, 7, 15, 1, 1, 1};
        long[] a = {99, 1, 0, 0, 0, 0, 0};
        for (int what = 0; what < 7; what++) {
            good("dish(1, " + what + ")", x.dish(1, what), b[what]);
            good("dish(0, " + what + ")", x.dish(0, what), a[what]);
        }
        good("dish(2, 7)", x.dish(2, 7), 3);
        good("dish(3, 7)", x.dish(3, 7), 2);
        no("dish(0, 7)", x.dish(0, 7), 6);
        good("dish(0, 8)", x.dish(0, 8), 0);
        good("dish(1, 8)", x.dish(1, 8), 1);
        good("dish(2, 8)", x.dish(2, 8), 2);
        good("dish(3, 8)", x.dish(3, 8), 0);
        no("dish(4, 0)", x.dish(4, 0), 1);
        no("dish(-1, 0)", x.dish(-1, 0), 1);
        no("dish(0, 9)", x.dish(0, 9), 1);
        no("dish(0, -1)", x.dish(0, -1), 1);
    }

    private static void potIsTold() {
        kitchen("pots 3 1 9;");
        good("pot(0)", x.pot(0), 3);
        good("pot(1)", x.pot(1), 1);
        good("pot(2)", x.pot(2), 9);
        no("pot(3)", x.pot(3), 6);
        no("pot(-1)", x.pot(-1), 6);
    }

    private static void setFits() {
        kitchen("pots 1 3 2;dish a work 1;dish b work 1 size 2;dish c work 1 size 3;dish d work 1 size 4;dish e work 1 size 2;");
        good("fits(0)", x.fits(0), 1);
        good("fits(7)", x.fits(7), 1);
        good("fits(8)", x.fits(8), 0);
        good("fits(18)", x.fits(18), 1);
        good("fits(22)", x.fits(22), 0);
        good("fits(19)", x.fits(19), 1);
        no("fits(32)", x.fits(32), 1);
        no("fits(-1)", x.fits(-1), 1);
        kitchen("dish a work 1;");
        good("fits(1) without pots", x.fits(1), 0);
        kitchen("pots 8 9 8;dish a work 1 size 9;dish b work 1 size 9;dish c work 1 size 8;");
        good("fits(5)", x.fits(5), 1);
        good("fits(3), one is as big", x.fits(3), 0);
    }

    private static void setIsNeeded() {
        kitchen("dish a work 1;dish b work 1 from a;dish c work 1;dish d work 1 from c;pair b d;dish e work 1 from b;");
        good("needed(0)", x.needed(0), 0);
        good("needed(1)", x.needed(1), 1);
        good("needed(2)", x.needed(2), 15);
        good("needed(8)", x.needed(8), 15);
        good("needed(16)", x.needed(16), 31);
        good("needed(5)", x.needed(5), 5);
        no("needed(32)", x.needed(32), 1);
        no("needed(-1)", x.needed(-1), 1);
    }

    private static void makeByHand() {
        kitchen("pots 2 1 1;dish a work 3 once;dish b work 4 from a;dish c work 5 size 2;dish d work 2;pair b d;");
        no("make(1) without a", x.make(1), 7);
        no("make(3) without its partner's need", x.make(3), 7);
        good("make(0)", x.make(0), 1);
        no("make(0) again", x.make(0), 7);
        good("make(3) makes both, a is used up", x.make(3), 10);
        told(4, 7);
        told(5, 2);
        no("make(1), it stands", x.make(1), 7);
        x.wash(1);
        x.make(0);
        no("make(1), its partner stands", x.make(1), 7);
        good("make(2)", x.make(2), 13);
        x.wash(3);
        no("make(1), both do not fit", x.make(1), 7);
        no("make(4)", x.make(4), 1);
        no("make(-1)", x.make(-1), 1);
        told(4, 15);
        told(5, 6);
        kitchen("pots 1;dish a work 1;dish b work 1 from a;");
        x.make(0);
        no("make(1), no pot is left", x.make(1), 7);
        told(2, 1);
    }

    private static void pourByHand() {
        kitchen("pots 2 1;dish a work 1;dish b work 1 once;dish c work 7 size 2 from a b poured;dish d work 1 from a;");
        no("pourOver(2, 0), b is missing", pourAfter(0), 7);
        x.make(1);
        good("pourOver(2, 0)", x.pourOver(2, 0), 4);
        told(4, 9);
        told(5, 3);
        no("pourOver(2, 0), it stands", x.pourOver(2, 0), 7);
        x.empty();
        x.make(0);
        x.trust(1);
        no("pourOver(2, 1) over a trusted one", x.pourOver(2, 1), 7);
        good("pourOver(2, 0), b is used as if made", x.pourOver(2, 0), 4);
        told(3, 0);
        no("pourOver(3, 0), it is not poured", x.pourOver(3, 0), 7);
        no("pourOver(2, 3), none of what it needs", x.pourOver(2, 3), 7);
        no("pourOver(4, 0)", x.pourOver(4, 0), 1);
        no("pourOver(0, 4)", x.pourOver(0, 4), 1);
        no("pourOver(-1, 0)", x.pourOver(-1, 0), 1);
        no("pourOver(0, -1)", x.pourOver(0, -1), 1);
        kitchen("pots 1 1;dish a work 1;dish b work 1 size 2 from a poured;");
        x.make(0);
        no("pourOver(1, 0), no pot is so big", x.pourOver(1, 0), 7);
        kitchen("pots 2 1;dish a work 1;dish b work 1 size 2 from a poured;dish c work 1;");
        x.make(0);
        x.make(2);
        good("pourOver(1, 0), which stands in which does not matter", x.pourOver(1, 0), 6);
        kitchen("pots 2 2 2;dish a work 1;dish b work 1 from a poured;dish c work 1;pair b c;");
        x.make(0);
        no("pourOver(1, 0), it is in a pair", x.pourOver(1, 0), 7);
    }

    private static int pourAfter(int dish) {
        x.make(dish);
        return x.pourOver(2, dish);
    }

    private static void washByHand() {
        kitchen("pots 1 1;dish a work 1;dish b work 1;pair a b;");
        no("wash(0)", x.wash(0), 7);
        x.make(0);
        good("wash(0)", x.wash(0), 2);
        told(5, 2);
        x.trust(0);
        no("wash(0), it is trusted", x.wash(0), 7);
        no("wash(2)", x.wash(2), 1);
        no("wash(-1)", x.wash(-1), 1);
    }

    private static void trustByHand() {
        kitchen("pots 1 1;dish a work 1;dish b work 1 from a;dish c work 1;pair b c;");
        good("trust(1), one by one and without its need", x.trust(1), 2);
        no("trust(1) again", x.trust(1), 7);
        good("trust(0)", x.trust(0), 3);
        no("trust(2), it does not fit", x.trust(2), 7);
        told(3, 3);
        told(4, 0);
        told(5, 2);
        no("trust(3)", x.trust(3), 1);
        no("trust(-1)", x.trust(-1), 1);
    }

    private static void showByHand() {
        kitchen("pots 1 1 1;dish a work 1 once;dish b work 1 from a;");
        no("show(1), it does not stand", x.show(1), 7);
        x.trust(1);
        no("show(1), its need does not stand", x.show(1), 7);
        x.make(0);
        no("show(0), it is made", x.show(0), 7);
        good("show(1), its need stays", x.show(1), 1);
        x.trust(1);
        x.wash(0);
        x.trust(0);
        good("show(1) by a trusted one", x.show(1), 1);
        good("show(0)", x.show(0), 0);
        told(3, 0);
        told(5, 8);
        no("show(2)", x.show(2), 1);
        no("show(-1)", x.show(-1), 1);
    }

    private static void keepsByHand() {
        kitchen("pots 1 1 1;dish a work 1 keeps 2;dish b work 1;dish c work 1 keeps 1 from a poured;");
        no("keeps(0)", x.keeps(0), 6);
        x.make(0);
        good("keeps(0)", x.keeps(0), 2);
        no("make(0)", x.make(0), 7);
        good("keeps(0), what can't be done ages nothing", x.keeps(0), 2);
        x.make(1);
        good("keeps(0)", x.keeps(0), 1);
        good("keeps(1), for ever", x.keeps(1), 0);
        good("pourOver(2, 0) in time", x.pourOver(2, 0), 6);
        good("keeps(2)", x.keeps(2), 1);
        good("wash(1), c is spoilt", x.wash(1), 0);
        x.make(0);
        x.make(1);
        good("make(2), a is spoilt behind it", x.make(2), 6);
        x.empty();
        x.trust(0);
        x.make(1);
        x.wash(1);
        good("keeps(0), it is trusted", x.keeps(0), 0);
        told(2, 1);
        no("keeps(3)", x.keeps(3), 1);
        no("keeps(-1)", x.keeps(-1), 1);
    }

    private static void emptyByHand() {
        kitchen("pots 1 1;dish a work 1;dish b work 1;");
        x.make(0);
        x.trust(1);
        yes("empty()", x.empty());
        for (int what = 2; what <= 5; what++) {
            told(what, 0);
        }
        told(0, 2);
    }

    private static void leastWork() {
        kitchen("pots 1 1 1;" + TWICE);
        good("work(16)", x.work(16), 14);
        good("work(0)", x.work(0), 0);
        good("work(1)", x.work(1), 5);
        good("work(8)", x.work(8), 8);
        no("work(15), it does not fit", x.work(15), 6);
        no("work(32)", x.work(32), 1);
        no("work(-1)", x.work(-1), 1);
        x.make(0);
        good("work(16), whatever stands by hand", x.work(16), 14);
        kitchen("pots 1 1 1 1;" + TWICE);
        good("work(16) with a pot more", x.work(16), 9);
        kitchen("pots 1 1 1;dish a work 9;dish b work 4;pair a b;dish c work 1 from b;");
        good("work(4), of a pair the greater", x.work(4), 10);
        kitchen("pots 1 1;dish a work 5 keeps 1;dish b work 1 size 2;dish c work 1 keeps 1 burns 15 from a poured;");
        good("work(4), keeping is not asked", x.work(4), 6);
        no("work(2), too big", x.work(2), 6);
        kitchen(NEVER);
        no("work(8)", x.work(8), 6);
        good("work(16)", x.work(16), 1);
    }

    private static void leastSteps() {
        kitchen("pots 1 1 1;" + TWICE);
        good("steps(16)", x.steps(16), 9);
        good("steps(0)", x.steps(0), 0);
        no("steps(15)", x.steps(15), 6);
        no("steps(32)", x.steps(32), 1);
        no("steps(-1)", x.steps(-1), 1);
        kitchen("pots 1 1;dish a work 0;dish b work 0;dish c work 9 from a poured;dish d work 0 from a;");
        good("steps(6)", x.steps(6), 3);
        // Of p, q, r two must go: two washes without work, or one pour with much of it, of a dish not needed.
        kitchen("pots 1 1 1 1 1 1;dish a work 1;dish p work 1 once;pair a p;dish b work 1;dish q work 1 once;pair b q;"
                + "dish c work 1;dish r work 1 once;pair c r;dish d work 1;dish e work 1;"
                + "dish k work 50 from p q r poured;");
        good("steps(213)", x.steps(213), 6);
        good("work(213)", x.work(213), 5);
        good("first(213)", x.first(213), 7);
    }

    /** As above, but the pour is without work, too: of as much work the fewer steps. */
    private static void fewerSteps() {
        kitchen("pots 1 1 1 1 1 1;dish a work 1;dish p work 1 once;pair a p;dish b work 1;dish q work 1 once;pair b q;"
                + "dish c work 1;dish r work 1 once;pair c r;dish d work 1;dish e work 1;"
                + "dish k work 0 from p q r poured;");
        good("first(213)", x.first(213), 6);
        path(m(0), m(2), m(4), p(8, 1), m(6), m(7));
    }

    private static void path(int... codes) {
        for (int i = 0; i < codes.length; i++) {
            int kind = codes[i] / 1000;
            good("firstAt(" + i + ", 0)", x.firstAt(i, 0), kind);
            good("firstAt(" + i + ", 1)", x.firstAt(i, 1), codes[i] / 20 % 50);
            if (kind == 1) {
                good("firstAt(" + i + ", 2)", x.firstAt(i, 2), codes[i] % 20);
            } else {
                no("firstAt(" + i + ", 2)", x.firstAt(i, 2), 6);
            }
        }
        no("firstAt(behind)", x.firstAt(codes.length, 0), 6);
    }

    private static int m(int dish) {
        return dish * 20;
    }

    private static int p(int dish, int over) {
        return 1000 + dish * 20 + over;
    }

    private static int w(int dish) {
        return 2000 + dish * 20;
    }

    private static void firstOfLeast() {
        fewerSteps();
        kitchen("pots 1 1 1;" + TWICE);
        good("first(16)", x.first(16), 9);
        path(m(0), m(1), m(2), w(0), m(3), w(1), m(0), w(2), m(4));
        good("first(0)", x.first(0), 0);
        path();
        kitchen("pots 1 1 1;" + POURED_PYRAMID);
        good("first(32)", x.first(32), 6);
        path(m(0), m(1), m(2), p(3, 0), p(4, 1), p(5, 3));
        no("first(64)", x.first(64), 1);
        no("first(-1)", x.first(-1), 1);
        kitchen("pots 1 1 1;dish a work 1;dish b work 1;dish c work 1;pair a c;");
        good("first(4), the lesser of a pair", x.first(4), 1);
        path(m(0));
        // With as little work two ways: the fewer steps come first.
        kitchen("pots 1 1;dish a work 0;dish b work 1 from a;dish c work 1 from a poured;dish d work 0 from c;");
        good("first(8)", x.first(8), 3);
        path(m(0), p(2, 0), m(3));
    }

    private static void firstIsTold() {
        kitchen("pots 1 1 1;" + TWICE);
        no("firstAt(0, 0) ahead of any", x.firstAt(0, 0), 6);
        x.first(16);
        no("firstAt(0, 3)", x.firstAt(0, 3), 1);
        no("firstAt(0, -1)", x.firstAt(0, -1), 1);
        no("firstAt(99, 3)", x.firstAt(99, 3), 1);
        no("firstAt(-1, 0)", x.firstAt(-1, 0), 6);
        no("firstAt(9, 0)", x.firstAt(9, 0), 6);
        no("first(15) can't be", x.first(15), 6);
        good("firstAt(8, 1), the latest stays", x.firstAt(8, 1), 4);
        takeMenu(dishes(12));
        good("firstAt(8, 1) behind another menu", x.firstAt(8, 1), 4);
    }

    private static void fewestPots() {
        kitchen(PYRAMID);
        good("fewest(32)", x.fewest(32), 4);
        good("fewest(8)", x.fewest(8), 3);
        good("fewest(0)", x.fewest(0), 0);
        good("fewest(63)", x.fewest(63), 6);
        good("fewest(1)", x.fewest(1), 1);
        no("fewest(64)", x.fewest(64), 1);
        no("fewest(-1)", x.fewest(-1), 1);
        kitchen(POURED_PYRAMID);
        good("fewest(32)", x.fewest(32), 3);
        kitchen("dish a work 1 size 9;dish b work 1;pair a b;");
        good("fewest(1) of a pair", x.fewest(1), 2);
        kitchen(NEVER);
        no("fewest(8)", x.fewest(8), 6);
        kitchen(dishes(12));
        good("fewest(all)", x.fewest(4095), 12);
    }

    private static void curves() {
        kitchen("pots 1;" + TWICE);
        no("curve(16, 2)", x.curve(16, 2), 6);
        good("curve(16, 3)", x.curve(16, 3), 14);
        good("curve(16, 4)", x.curve(16, 4), 9);
        good("curve(16, 12)", x.curve(16, 12), 9);
        good("curve(31, 5)", x.curve(31, 5), 9);
        good("curve(0, 0)", x.curve(0, 0), 0);
        no("curve(16, 0)", x.curve(16, 0), 6);
        no("curve(16, 13)", x.curve(16, 13), 1);
        no("curve(16, -1)", x.curve(16, -1), 1);
        no("curve(32, 3)", x.curve(32, 3), 1);
        no("curve(-1, 3)", x.curve(-1, 3), 1);
        kitchen(NEVER);
        no("curve(8, 12)", x.curve(8, 12), 6);
    }

    private static void trustfulPots() {
        kitchen("dish a work 1;dish b work 1;dish c work 1;dish d work 1 from a b c once;dish e work 1 from d;");
        good("fewest(16)", x.fewest(16), 4);
        good("trustful(16), what is used up need not be shown", x.trustful(16), 2);
        good("trustful(8), what is trusted must be made", x.trustful(8), 4);
        good("trustful(0)", x.trustful(0), 0);
        no("trustful(32)", x.trustful(32), 1);
        no("trustful(-1)", x.trustful(-1), 1);
        kitchen("dish a work 1;dish b work 1 from a;dish c work 1 from b;");
        good("trustful(4)", x.trustful(4), 2);
        kitchen(dishes(8) + "dish i work 1 from aa;");
        good("trustful of 8", x.trustful(255), 8);
        no("trustful of 9", x.trustful(511), 4);
        kitchen(dishes(7) + "dish i work 1;dish k work 1;pair i k;");
        no("trustful of 8 with a partner more", x.trustful(255), 4);
        kitchen(NEVER);
        good("trustful(16)", x.trustful(16), 1);
        no("fewest(1) can't be", x.fewest(1), 6);
        good("trustful(1), x and y are made beside p, which is trusted", x.trustful(1), 3);
    }

    private static void bounds() {
        kitchen(PYRAMID);
        good("bound(32)", x.bound(32), 3);
        good("bound(7)", x.bound(7), 3);
        good("bound(0)", x.bound(0), 0);
        good("bound(1)", x.bound(1), 1);
        good("bound(63)", x.bound(63), 6);
        no("bound(64)", x.bound(64), 1);
        no("bound(-1)", x.bound(-1), 1);
        kitchen(POURED_PYRAMID);
        good("bound(32)", x.bound(32), 2);
        kitchen("dish a work 1;dish b work 1;dish c work 1;dish d work 1 from a b c;dish e work 1;pair d e;");
        good("bound(16), partners, too", x.bound(16), 4);
    }

    private static void treeRules() {
        kitchen("dish a work 1;dish b work 1;dish c work 1;dish d work 1;dish e work 1 from a b;dish f work 1 from c d;"
                + "dish g work 1 from e f;dish h work 1 from g a;dish i work 1 from g poured;");
        good("treeRule(0)", x.treeRule(0), 1);
        good("treeRule(4)", x.treeRule(4), 3);
        good("treeRule(6)", x.treeRule(6), 4);
        no("treeRule(7), a is needed by two", x.treeRule(7), 7);
        good("treeRule(8)", x.treeRule(8), 4);
        no("treeRule(9)", x.treeRule(9), 1);
        no("treeRule(-1)", x.treeRule(-1), 1);
        kitchen("dish a work 1 once;dish b work 1 from a;dish c work 1;dish d work 1;pair c d;dish e work 1 from c;"
                + "dish f work 1;dish g work 1 from f poured;dish h work 1;dish i work 1 from g h poured once;");
        no("treeRule(0), it is once", x.treeRule(0), 7);
        no("treeRule(1)", x.treeRule(1), 7);
        no("treeRule(2), it is in a pair", x.treeRule(2), 7);
        no("treeRule(4)", x.treeRule(4), 7);
        good("treeRule(6), poured over its only need", x.treeRule(6), 1);
        no("treeRule(8)", x.treeRule(8), 7);
        kitchen("dish a work 1;dish b work 1;dish c work 1 from a b poured;dish d work 1;dish e work 1 from c d poured;"
                + "dish f work 1;dish g work 1;dish h work 1 from f g;dish i work 1 from e h d;");
        good("treeRule(4)", x.treeRule(4), 2);
        no("treeRule(8)", x.treeRule(8), 7);
        // Numbers 3, 3, 1: 3, 3 and 1, 1 and 2, and 3 needs and one more.
        kitchen("dish a work 1;dish b work 1;dish c work 1 from a b;dish d work 1;dish e work 1;dish f work 1 from d e;"
                + "dish g work 1;dish h work 1 from g c f;");
        good("treeRule(7)", x.treeRule(7), 4);
    }

    private static void roundsOfCooks() {
        kitchen("pots 1 1 1;" + TWICE);
        good("rounds(16, 1)", x.rounds(16, 1), 6);
        good("rounds(16, 2)", x.rounds(16, 2), 5);
        good("rounds(16, 4)", x.rounds(16, 4), 5);
        good("rounds(0, 1)", x.rounds(0, 1), 0);
        no("rounds(15, 4)", x.rounds(15, 4), 6);
        no("rounds(16, 0)", x.rounds(16, 0), 1);
        no("rounds(16, 5)", x.rounds(16, 5), 1);
        no("rounds(32, 1)", x.rounds(32, 1), 1);
        no("rounds(-1, 1)", x.rounds(-1, 1), 1);
        kitchen("pots 1 1 1 1;" + TWICE);
        good("rounds(16, 2)", x.rounds(16, 2), 4);
        kitchen("pots 1 1 1 1 1 1 1 1;" + dishes(9));
        good("rounds(255, 4)", x.rounds(255, 4), 2);
        good("rounds(255, 3)", x.rounds(255, 3), 3);
        no("rounds(511, 4)", x.rounds(511, 4), 6);
        kitchen("pots 1 1 1;dish a work 1 once;dish b work 1 from a;dish c work 1 from a;dish d work 1;dish e work 1;"
                + "pair d e;dish f work 1 from d;");
        good("rounds(6, 1), a is made twice", x.rounds(6, 1), 4);
        good("rounds(6, 2), both at once of one", x.rounds(6, 2), 2);
        no("rounds(8, 4), a pair", x.rounds(8, 4), 6);
        no("rounds(32, 4), it needs one of a pair", x.rounds(32, 4), 6);
        kitchen("pots 1;dish a work 1;dish b work 1 from a poured;");
        no("rounds(2, 1), nothing is poured", x.rounds(2, 1), 6);
    }

    private static void sparedByPots() {
        kitchen("pots 1 1 1;" + TWICE);
        good("spared(16, 1)", x.spared(16, 1), 5);
        good("spared(16, 9)", x.spared(16, 9), 5);
        good("spared(8, 1)", x.spared(8, 1), 0);
        no("spared(15, 1), it can't be without it", x.spared(15, 1), 6);
        no("spared(16, 0)", x.spared(16, 0), 1);
        no("spared(16, 10)", x.spared(16, 10), 1);
        no("spared(32, 1)", x.spared(32, 1), 1);
        no("spared(-1, 1)", x.spared(-1, 1), 1);
        kitchen("pots 2 2 2;dish a work 5 size 2;dish b work 1 size 2 from a;dish c work 1 size 2;"
                + "dish d work 1 size 2 from b c;dish e work 1 size 2 from d a;");
        good("spared(16, 1), too small", x.spared(16, 1), 0);
        good("spared(16, 2)", x.spared(16, 2), 5);
    }

    private static void againByOnce() {
        kitchen("pots 1 1 1;" + TWICE);
        yes("again(16)", x.again(16));
        fraction(14, 9);
        yes("again(8)", x.again(8));
        fraction(1, 1);
        no("again(0), that is 0", x.again(0), 6);
        no("again(15), it can't be", x.again(15), 6);
        no("again(32)", x.again(32), 1);
        no("again(-1)", x.again(-1), 1);
        fraction(1, 1);
        kitchen("pots 1 1 1;dish a work 4;dish b work 6 once;pair a b;dish c work 2 from b;dish d work 0;");
        no("again(8), all is without work", x.again(8), 6);
        yes("again(6), b is made twice", x.again(6));
        fraction(7, 4);
    }

    private static void cookPlans() {
        kitchen("pots 1 1;dish a work 3 burns 15;dish b work 2 burns 14 from a;dish c work 1 keeps 2;");
        no("cook(NONE) without a plan", x.cook(NONE), 6);
        planned("make a;make b;");
        good("cook(NONE)", x.cook(NONE), 3);
        // The draws of 0 are 14, 1, 5 ..
        good("cook(0)", x.cook(0), 0);
        planned("make b;make c;make a;");
        good("cook(0), what is missed draws nothing", x.cook(0), 4);
        no("cook(-2)", x.cook(-2), 1);
        no("cook(10000)", x.cook(10000), 1);
        told(2, 0);
        told(5, 0);
        kitchen("pots 1 1 1;dish a work 3 burns 14;dish b work 2 burns 2 from a poured;dish c work 1 from a;");
        planned("make a;pour b over a;");
        good("cook(0), the pot poured over is lost, too", x.cook(0), 0);
        good("cook(NONE)", x.cook(NONE), 2);
        x.cook(9999);
        due("cook(9999)", x.status(), 0);
        kitchen("pots 1 1 1;dish a work 3 burns 2;dish b work 5 burns 14;pair a b;");
        planned("make b;");
        good("cook(0), the lesser draws first", x.cook(0), 1);
        limits();
    }

    private static void limits() {
        kitchen("pots 1;dish a work 1;");
        planned("loop 99;make a;wash a;make a;wash a;end;make a;");
        good("300 steps", x.cook(NONE), 0);
        good("cooked(1)", x.cooked(1), 300);
        good("cooked(0)", x.cooked(0), 150);
        planned("loop 99;make a;wash a;make a;end;");
        good("297 steps", x.cook(NONE), 1);
        good("cooked(1)", x.cooked(1), 297);
        String nine = "when full 9;end;when full 9;end;when full 9;end;when full 9;end;when full 9;end;when full 9;end;"
                + "when full 9;end;when full 9;end;";
        planned("loop 89;loop 9;when full 0;end;end;end;" + nine + "make a;");
        good("the 900th", x.cook(NONE), 1);
        planned("loop 89;loop 9;when full 0;end;end;end;" + nine + "when full 0;end;make a;");
        good("the 901st", x.cook(NONE), 0);
        planned("loop 99;loop 99;loop 99;end;end;end;make a;");
        good("loops of nothing", x.cook(NONE), 0);
        planned("loop 8;loop 99;loop 99;end;end;end;make a;");
        good("loops of nothing that end in time", x.cook(NONE), 1);
    }

    private static void cookedIsTold() {
        kitchen("pots 1 1 1;dish a work 3 burns 15;dish b work 2 keeps 1;dish c work 1;");
        no("cooked(0) ahead of any", x.cooked(0), 6);
        planned("make a;make b;make b;trust c;wash a;");
        good("cook(0)", x.cook(0), 4);
        long[] want = {3 + 2, 5, 2, 1, 4, 1, 1};
        for (int what = 0; what < 7; what++) {
            good("cooked(" + what + ")", x.cooked(what), want[what]);
        }
        no("cooked(7)", x.cooked(7), 1);
        no("cooked(-1)", x.cooked(-1), 1);
        x.judged();
        x.odds(1, 5, 3);
        no("cook(10000)", x.cook(10000), 1);
        good("cooked(0), the latest stays", x.cooked(0), 5);
        planned("when stands c;make a;end;trust c;when trusted c;make b;end;when full 3;make a;end;loop 3;show c;end;"
                + "stop;make a;");
        good("cook(NONE)", x.cook(NONE), 0);
        good("cooked(2), show is missed behind the first time", x.cooked(2), 2);
        good("cooked(3)", x.cooked(3), 2);
        planned("trust c;make a;when full 2;make b;end;");
        good("cook(NONE)", x.cook(NONE), 7);
        good("cooked(3)", x.cooked(3), 3);
    }

    private static void judgedPlans() {
        kitchen("pots 1 1;dish a work 3 burns 15;dish b work 2 from a;");
        no("judged() without a plan", x.judged(), 6);
        planned("make a;make b;");
        no("judged(), nothing is missed", x.judged(), 6);
        planned("when full 1;stop;end;loop 2;make a;end;");
        good("judged()", x.judged(), 3);
        planned("make b;make b;");
        good("judged(), the first", x.judged(), 0);
        planned("make a;stop;make a;");
        no("judged(), it is not come to", x.judged(), 6);
    }

    private static void oddsOfPlans() {
        kitchen("pots 1 1;dish a work 3 burns 15;dish b work 2 burns 0;dish c work 1;");
        no("odds(1, 0, 1) without a plan", x.odds(1, 0, 1), 6);
        planned("make b;trust c;");
        yes("odds(2, 0, 30)", x.odds(2, 0, 30));
        fraction(1, 1);
        yes("odds(4, 0, 30), it is not made", x.odds(4, 0, 30));
        fraction(0, 1);
        planned("make a;");
        // First draws: seed 0 gives 14; 1: s is 11722, 1465 by 16 leaves 9; 2: 14625, 1828 leaves 4.
        yes("odds(1, 0, 3)", x.odds(1, 0, 3));
        fraction(0, 1);
        kitchen("pots 1 1;dish a work 3 burns 10;");
        planned("make a;");
        yes("odds(1, 0, 3)", x.odds(1, 0, 3));
        fraction(1, 3);
        yes("odds(1, 0, 2)", x.odds(1, 0, 2));
        fraction(1, 2);
        yes("odds(1, 9999, 1)", x.odds(1, 9999, 1));
        long upper = x.top();
        long lower = x.bottom();
        no("odds(1, 9999, 2)", x.odds(1, 9999, 2), 1);
        no("odds(1, 10000, 1)", x.odds(1, 10000, 1), 1);
        no("odds(1, -1, 1)", x.odds(1, -1, 1), 1);
        no("odds(1, 0, 0)", x.odds(1, 0, 0), 1);
        no("odds(1, 0, 31)", x.odds(1, 0, 31), 1);
        no("odds(2, 0, 1)", x.odds(2, 0, 1), 1);
        no("odds(-1, 0, 1)", x.odds(-1, 0, 1), 1);
        no("odds(1, most, 30)", x.odds(1, Integer.MAX_VALUE, 30), 1);
        fraction(upper, lower);
    }

    private static void marks() {
        kitchen("pots 1 1;dish a work 3;dish b work 5;");
        good("mark()", x.mark(), 1);
        good("mark()", x.mark(), 2);
        good("mark()", x.mark(), 3);
        no("mark()", x.mark(), 4);
        good("back()", x.back(), 2);
        good("mark()", x.mark(), 3);
    }

    private static void backToMarks() {
        kitchen("pots 1 1;dish a work 3 keeps 3;dish b work 5;");
        no("back()", x.back(), 6);
        planned("make a;");
        x.make(0);
        x.tray(0, 0, 1);
        good("mark()", x.mark(), 1);
        x.make(1);
        x.wash(1);
        good("keeps(0)", x.keeps(0), 1);
        planned("make b;");
        good("mark()", x.mark(), 2);
        goodMenu("pots 1;dish z work 1;", 1);
        good("work(1)", x.work(1), 1);
        x.write(0, 0, 7);
        good("back()", x.back(), 1);
        told(0, 2);
        told(2, 1);
        told(4, 8);
        told(5, 3);
        good("work(3)", x.work(3), 8);
        good("cook(NONE)", x.cook(NONE), 2);
        good("read(0, 0), trays are not taken back", x.read(0, 0), 7);
        good("back()", x.back(), 0);
        told(2, 1);
        told(4, 3);
        told(5, 1);
        good("keeps(0)", x.keeps(0), 3);
        good("cook(NONE)", x.cook(NONE), 1);
        no("back()", x.back(), 6);
    }

    private interface Check {
        void run();
    }

    public static void main(String[] args) {
        Check[] checks = {
            PromisesTest::newObject, PromisesTest::status, PromisesTest::topAndBottom, PromisesTest::topAndBottom,
            PromisesTest::trayIsLaid, PromisesTest::writeCuts, PromisesTest::readTells, PromisesTest::pourTrays,
            PromisesTest::feedBytes, PromisesTest::menuIsTaken, PromisesTest::planIsTaken, PromisesTest::faults,
            PromisesTest::toldByHand, PromisesTest::dishIsTold, PromisesTest::potIsTold, PromisesTest::setFits,
            PromisesTest::setIsNeeded, PromisesTest::makeByHand, PromisesTest::pourByHand, PromisesTest::washByHand,
            PromisesTest::trustByHand, PromisesTest::showByHand, PromisesTest::keepsByHand, PromisesTest::emptyByHand,
            PromisesTest::leastWork, PromisesTest::leastSteps, PromisesTest::firstOfLeast, PromisesTest::firstIsTold,
            PromisesTest::fewestPots, PromisesTest::curves, PromisesTest::trustfulPots, PromisesTest::bounds,
            PromisesTest::treeRules, PromisesTest::roundsOfCooks, PromisesTest::sparedByPots,
            PromisesTest::againByOnce, PromisesTest::cookPlans, PromisesTest::cookedIsTold,
            PromisesTest::judgedPlans, PromisesTest::oddsOfPlans, PromisesTest::marks, PromisesTest::backToMarks};
        for (int i = 0; i < checks.length; i++) {
            promise = i + 1;
            checks[i].run();
        }
        System.out.println(wrong == 0 ? "all answers are as due" : wrong + " answers are not as due");
        if (wrong != 0 || checks.length != 42) {
            System.exit(1);
        }
    }
}
