/** Promises 5 to 8, sentence by sentence: the edges of TRAYS. */
public final class TrayEdgesTest extends Edges {
    private static final String ROWS = "TRAYS 0 to 3 are MISSING at first, or rows of 0 to 60 numbers of 8 bits "
            + "(sort 0), 16 (1), 32 (2) or 64 (3).";

    private static void row(int tray, long... want) {
        for (int i = 0; i < want.length; i++) {
            good(x.read(tray, i), want[i]);
        }
    }

    /** TRAYS 0 and 1 of sort 2 with five and three numbers: 1 2 3 4 5 and 6 7 8. */
    private static void twoTrays() {
        x.tray(0, 2, 5);
        x.tray(1, 2, 3);
        for (int i = 0; i < 5; i++) {
            x.write(0, i, i + 1);
        }
        for (int i = 0; i < 3; i++) {
            x.write(1, i, i + 6);
        }
    }

    // ---- 5: tray

    private static void tray5EachIsMissingAtFirst() {
        sentence(5, ROWS);
        for (int t = 0; t < 4; t++) {
            no(x.read(t, 0), 2);
            no(x.write(t, 0, 1), 2);
            no(x.pour(t, 0, t, 0, 0), 2);
        }
    }

    private static void tray5OneThatIsLaidLeavesTheOthersMissing() {
        sentence(5, "A TRAY is a row of so many 0s (1).");
        for (int t = 0; t < 4; t++) {
            x = new FourPots();
            yes(x.tray(t, 0, 1));
            for (int other = 0; other < 4; other++) {
                if (other == t) {
                    good(x.read(other, 0), 0);
                } else {
                    no(x.read(other, 0), 2);
                }
            }
        }
    }

    private static void tray5NoSuchTray() {
        sentence(5, "TRAYS 0 to 3");
        yes(x.tray(0, 0, 1));
        yes(x.tray(3, 0, 1));
        no(x.tray(-1, 0, 1), 1);
        no(x.tray(4, 0, 1), 1);
        no(x.tray(Integer.MIN_VALUE, 0, 1), 1);
        no(x.tray(Integer.MAX_VALUE, 0, 1), 1);
    }

    private static void tray5NoSuchSort() {
        sentence(5, "numbers of 8 bits (sort 0), 16 (1), 32 (2) or 64 (3).");
        yes(x.tray(0, 0, 1));
        yes(x.tray(0, 3, 1));
        no(x.tray(0, -1, 1), 1);
        no(x.tray(0, 4, 1), 1);
        no(x.tray(0, Integer.MIN_VALUE, 1), 1);
        no(x.tray(0, Integer.MAX_VALUE, 1), 1);
    }

    private static void tray5NoNumbersAtAll() {
        sentence(5, "rows of 0 to 60 numbers");
        yes(x.tray(2, 1, 0));
        no(x.read(2, 0), 3);
        no(x.write(2, 0, 1), 3);
        yes(x.pour(2, 0, 2, 0, 0));
        no(x.tray(2, 1, -1), 1);
        no(x.tray(2, 1, Integer.MIN_VALUE), 1);
    }

    private static void tray5SixtyNumbersAndNoMore() {
        sentence(5, "rows of 0 to 60 numbers");
        for (int t = 0; t < 4; t++) {
            yes(x.tray(t, t, 60));
            good(x.read(t, 59), 0);
            yes(x.write(t, 59, -1));
            good(x.read(t, 59), -1);
            no(x.read(t, 60), 3);
            no(x.write(t, 60, 1), 3);
            no(x.tray(t, t, 61), 1);
            no(x.tray(t, t, Integer.MAX_VALUE), 1);
            good(x.read(t, 59), -1);
        }
    }

    private static void tray5LaidAnewItIsAllZeros() {
        sentence(5, "A TRAY is a row of so many 0s (1).");
        yes(x.tray(1, 3, 60));
        for (int i = 0; i < 60; i++) {
            x.write(1, i, i + 1);
        }
        yes(x.tray(1, 3, 2));
        row(1, 0, 0);
        no(x.read(1, 2), 3);
        yes(x.tray(1, 3, 60));
        for (int i = 0; i < 60; i++) {
            good(x.read(1, i), 0);
        }
    }

    private static void tray5LaidAnewOfAnotherSort() {
        sentence(5, "A TRAY is a row of so many 0s (1).");
        yes(x.tray(1, 0, 1));
        x.write(1, 0, 300);
        row(1, 44);
        yes(x.tray(1, 1, 1));
        x.write(1, 0, 300);
        row(1, 300);
    }

    // ---- 6: write

    private static void write6EightBitsWrapAround() {
        sentence(6, "A number comes to a place of a TRAY, cut to its sort (1, 2, 3).");
        x.tray(0, 0, 1);
        long[] given = {127, 128, 255, 256, -128, -129, -256, Long.MAX_VALUE, Long.MIN_VALUE};
        long[] cut = {127, -128, -1, 0, -128, 127, 0, -1, 0};
        for (int i = 0; i < given.length; i++) {
            yes(x.write(0, 0, given[i]));
            row(0, cut[i]);
        }
    }

    private static void write6SixteenBitsWrapAround() {
        sentence(6, "cut to its sort");
        x.tray(0, 1, 1);
        long[] given = {32767, 32768, 65535, 65536, -32768, -32769, -65536, Long.MAX_VALUE, Long.MIN_VALUE};
        long[] cut = {32767, -32768, -1, 0, -32768, 32767, 0, -1, 0};
        for (int i = 0; i < given.length; i++) {
            yes(x.write(0, 0, given[i]));
            row(0, cut[i]);
        }
    }

    private static void write6ThirtyTwoBitsWrapAround() {
        sentence(6, "cut to its sort");
        x.tray(0, 2, 1);
        long[] given = {2147483647L, 2147483648L, 4294967295L, 4294967296L, -2147483648L, -2147483649L,
            Long.MAX_VALUE, Long.MIN_VALUE};
        long[] cut = {2147483647L, -2147483648L, -1, 0, -2147483648L, 2147483647L, -1, 0};
        for (int i = 0; i < given.length; i++) {
            yes(x.write(0, 0, given[i]));
            row(0, cut[i]);
        }
    }

    private static void write6SixtyFourBitsAreNotCut() {
        sentence(6, "cut to its sort");
        x.tray(0, 3, 1);
        long[] given = {0, -1, 4294967296L, Long.MAX_VALUE, Long.MIN_VALUE, Long.MAX_VALUE - 1};
        for (long v : given) {
            yes(x.write(0, 0, v));
            row(0, v);
        }
    }

    private static void write6OnlyItsPlace() {
        sentence(6, "A number comes to a place of a TRAY");
        twoTrays();
        yes(x.write(0, 0, 9));
        yes(x.write(0, 4, 10));
        row(0, 9, 2, 3, 4, 10);
        row(1, 6, 7, 8);
    }

    private static void write6PlacesThatItHasNot() {
        sentence(6, "3 a place that the TRAY has not, or too few numbers.");
        twoTrays();
        no(x.write(1, 3, 1), 3);
        no(x.write(1, -1, 1), 3);
        no(x.write(1, Integer.MAX_VALUE, 1), 3);
        no(x.write(1, Integer.MIN_VALUE, 1), 3);
        yes(x.write(1, 2, 1));
        row(1, 6, 7, 1);
        row(0, 1, 2, 3, 4, 5);
    }

    private static void write6WhichStatusIsFirst() {
        sentence(6, "STATUS of a call is the first of these that holds: 1 a number that can't be; no such TRAY, "
                + "DISH, a set with others. 2 the TRAY is MISSING.");
        no(x.write(-1, -1, 1), 1);
        no(x.write(4, 60, 1), 1);
        no(x.write(3, -1, 1), 2);
        no(x.write(3, 60, 1), 2);
        no(x.write(3, 0, 1), 2);
    }

    // ---- 7: read

    private static void read7NoneAndMinusOne() {
        sentence(7, "The number in a place of a TRAY; STATUS tells NONE from -1 (1, 2, 3).");
        x.tray(0, 0, 1);
        x.write(0, 0, 255);
        good(x.read(0, 0), -1);
        no(x.read(0, 1), 3);
        good(x.read(0, 0), -1);
        no(x.read(1, 0), 2);
        no(x.read(4, 0), 1);
    }

    private static void read7PlacesThatItHasNot() {
        sentence(7, "3 a place that the TRAY has not, or too few numbers.");
        twoTrays();
        good(x.read(1, 2), 8);
        no(x.read(1, 3), 3);
        no(x.read(1, -1), 3);
        no(x.read(1, Integer.MAX_VALUE), 3);
        no(x.read(1, Integer.MIN_VALUE), 3);
    }

    private static void read7WhichStatusIsFirst() {
        sentence(7, "1 a number that can't be; no such TRAY, DISH, a set with others. 2 the TRAY is MISSING. "
                + "3 a place that the TRAY has not");
        no(x.read(-1, -1), 1);
        no(x.read(4, 60), 1);
        no(x.read(0, -1), 2);
        no(x.read(0, 60), 2);
    }

    // ---- 8: pour

    private static void pour8ToAnotherOne() {
        sentence(8, "So many numbers of a TRAY, from a place on, come to another one's (or its own) place on, "
                + "as they were (1: below 0, too; 2; 8; 3; asked in this order).");
        twoTrays();
        yes(x.pour(0, 3, 1, 1, 2));
        row(1, 6, 4, 5);
        row(0, 1, 2, 3, 4, 5);
    }

    private static void pour8ToItsOwnPlaceOnUpwards() {
        sentence(8, "(or its own) place on, as they were");
        twoTrays();
        yes(x.pour(0, 0, 0, 1, 4));
        row(0, 1, 1, 2, 3, 4);
    }

    private static void pour8ToItsOwnPlaceOnDownwards() {
        sentence(8, "(or its own) place on, as they were");
        twoTrays();
        yes(x.pour(0, 1, 0, 0, 4));
        row(0, 2, 3, 4, 5, 5);
    }

    private static void pour8ToItsOwnSamePlace() {
        sentence(8, "(or its own) place on, as they were");
        twoTrays();
        yes(x.pour(0, 0, 0, 0, 5));
        row(0, 1, 2, 3, 4, 5);
    }

    private static void pour8NoNumbersAtAll() {
        sentence(8, "So many numbers of a TRAY");
        twoTrays();
        yes(x.pour(0, 0, 1, 0, 0));
        yes(x.pour(0, 5, 1, 3, 0));
        row(0, 1, 2, 3, 4, 5);
        row(1, 6, 7, 8);
    }

    private static void pour8WholeTraysOfSixty() {
        sentence(8, "So many numbers of a TRAY, from a place on");
        x.tray(0, 3, 60);
        x.tray(3, 3, 60);
        for (int i = 0; i < 60; i++) {
            x.write(0, i, Long.MIN_VALUE + i);
        }
        yes(x.pour(0, 0, 3, 0, 60));
        for (int i = 0; i < 60; i++) {
            good(x.read(3, i), Long.MIN_VALUE + i);
        }
        no(x.pour(0, 0, 3, 0, 61), 3);
    }

    private static void pour8NumbersBelowZero() {
        sentence(8, "1: below 0, too");
        twoTrays();
        no(x.pour(0, -1, 1, 0, 1), 1);
        no(x.pour(0, 0, 1, -1, 1), 1);
        no(x.pour(0, 0, 1, 0, -1), 1);
        no(x.pour(0, Integer.MIN_VALUE, 1, 0, 1), 1);
        no(x.pour(0, 0, 1, Integer.MIN_VALUE, 1), 1);
        no(x.pour(0, 0, 1, 0, Integer.MIN_VALUE), 1);
        row(1, 6, 7, 8);
    }

    private static void pour8NoSuchTray() {
        sentence(8, "no such TRAY");
        twoTrays();
        no(x.pour(-1, 0, 1, 0, 1), 1);
        no(x.pour(4, 0, 1, 0, 1), 1);
        no(x.pour(0, 0, -1, 0, 1), 1);
        no(x.pour(0, 0, 4, 0, 1), 1);
    }

    private static void pour8OneIsMissing() {
        sentence(8, "2 the TRAY is MISSING.");
        twoTrays();
        no(x.pour(0, 0, 2, 0, 0), 2);
        no(x.pour(2, 0, 0, 0, 0), 2);
        no(x.pour(2, 0, 3, 0, 0), 2);
        no(x.pour(2, 0, 2, 0, 0), 2);
    }

    private static void pour8UnlikeSorts() {
        sentence(8, "8 TRAYS are of unlike sorts.");
        for (int t = 0; t < 4; t++) {
            x.tray(t, t, 3);
        }
        for (int from = 0; from < 4; from++) {
            for (int to = 0; to < 4; to++) {
                if (from == to) {
                    yes(x.pour(from, 0, to, 1, 2));
                } else {
                    no(x.pour(from, 0, to, 0, 3), 8);
                    no(x.pour(from, 0, to, 0, 0), 8);
                }
            }
        }
    }

    private static void pour8TooFewNumbers() {
        sentence(8, "3 a place that the TRAY has not, or too few numbers.");
        twoTrays();
        yes(x.pour(0, 2, 1, 0, 3));
        no(x.pour(0, 3, 1, 0, 3), 3);
        no(x.pour(0, 0, 1, 1, 3), 3);
        no(x.pour(1, 1, 0, 0, 3), 3);
        no(x.pour(0, 0, 1, 0, 4), 3);
        no(x.pour(0, 6, 1, 0, 0), 3);
        no(x.pour(0, 0, 1, 4, 0), 3);
        row(0, 1, 2, 3, 4, 5);
        row(1, 3, 4, 5);
    }

    private static void pour8SumsThatWrapAround() {
        sentence(8, "3 a place that the TRAY has not, or too few numbers.");
        twoTrays();
        int most = Integer.MAX_VALUE;
        no(x.pour(0, 1, 1, 0, most), 3);
        no(x.pour(0, most, 1, 0, 1), 3);
        no(x.pour(0, most, 1, most, most), 3);
        no(x.pour(0, 0, 1, most, 1), 3);
        no(x.pour(0, 2, 1, 2, most - 1), 3);
        row(1, 6, 7, 8);
    }

    private static void pour8WhichIsAskedFirst() {
        sentence(8, "asked in this order");
        x.tray(0, 2, 5);
        x.tray(1, 3, 3);
        no(x.pour(2, -1, 1, 0, 1), 1);
        no(x.pour(0, -1, 1, 0, 99), 1);
        no(x.pour(0, 0, 2, 0, 99), 2);
        no(x.pour(2, 99, 1, 99, 99), 2);
        no(x.pour(0, 0, 1, 0, 99), 8);
        no(x.pour(0, 99, 1, 0, 1), 8);
        no(x.pour(0, 0, 0, 0, 99), 3);
    }

    public static void main(String[] args) throws IllegalAccessException {
        runAll(TrayEdgesTest.class);
    }
}
