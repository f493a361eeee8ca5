/** Promises 9, 10 and 12 to 17, sentence by sentence: the tape, the MENU's text, its FAULTS, what it tells. */
public final class MenuEdgesTest extends Edges {
    private static final String[] RESERVED = ("dish work size keeps burns from poured once pair pots make pour over wash "
            + "trust show when stands trusted full loop end stop").split(" ");
    private static final String TOKENS = "TOKENS, as long as they go, between them blanks (10, 32): WORDS (small letters), "
            + "NUMBERS (1 to 4 digits), the SIGN ;";
    private static final String PARTS = "MENU: {PART}. PART: dish NAME work NUMBER [size NUMBER] [keeps NUMBER] "
            + "[burns NUMBER] [from NAME {NAME}] [poured] [once] ; or pair NAME NAME ; or pots NUMBER {NUMBER} ; "
            + "({ } any number of times, [ ] perhaps.)";
    private static final String NAMES = "NAME: a WORD of 1 to 8 letters that is none of dish, work, size, keeps, burns, "
            + "from, poured, once, pair, pots, make, pour, over, wash, trust, show, when, stands, trusted, full, loop, "
            + "end, stop.";
    private static final String THREE = "dish a work 1;dish b work 1;dish c work 1;";

    private static final int BLANKS = 0x20202020;

    private static void fillTape(int feeds) {
        for (int i = 1; i <= feeds; i++) {
            due(x.feed(BLANKS, BLANKS, BLANKS, BLANKS, BLANKS), 20 * i);
        }
    }

    // ---- 9: feed

    private static void feed9TheHighestByteFirst() {
        sentence(9, "Twenty bytes come behind those on the tape, the highest of each int first: how many it has;");
        due(x.feed(0x706F7473, 0x20312032, 0x20332034, 0x20352036, 0x20372038), 20);
        due(x.feed(0x3B202020, BLANKS, BLANKS, BLANKS, 0x2020203B), 40);
        good(x.menu(39), 0);
        for (int k = 0; k < 8; k++) {
            good(x.pot(k), k + 1);
        }
    }

    private static void feed9BytesAbove127() {
        sentence(9, "Twenty bytes come behind those on the tape, the highest of each int first");
        for (int place = 0; place < 4; place++) {
            int four = BLANKS ^ 0xA0 << 24 - 8 * place;
            x.feed(BLANKS, four, BLANKS, BLANKS, BLANKS);
            no(x.menu(20), 9);
            due(x.fault(0), 1);
            due(x.fault(1), 4 + place);
        }
        // A byte is not taken for its lower seven bits: 225 is no a, 177 no 1, 187 no ;, 160 no blank.
        for (int b : new int[] {225, 177, 187, 160, 128, 255, 138}) {
            menuFault("^" + (char) b, 1);
        }
    }

    private static void feed9MoreThan900() {
        sentence(9, "NONE if there would be more than 900.");
        fillTape(45);
        due(x.feed(-1, -1, -1, -1, -1), NONE);
        due(x.feed(-1, -1, -1, -1, -1), NONE);
        no(x.menu(901), 1);
        good(x.menu(900), 0);
        due(x.feed(BLANKS, BLANKS, BLANKS, BLANKS, BLANKS), 20);
    }

    private static void feed9TheLastThatFits() {
        sentence(9, "NONE if there would be more than 900.");
        fillTape(44);
        due(x.feed(BLANKS, BLANKS, BLANKS, BLANKS, 0x2020203F), 900);
        no(x.menu(900), 9);
        due(x.fault(1), 899);
    }

    // ---- 10: menu, and the text of a MENU

    private static void menu10TheFirstBytesOnly() {
        sentence(10, "The first n bytes of the tape (which is empty then) are the MENU: how many DISHES");
        feedText("dish a work 1;dish b work 1;");
        good(x.menu(14), 1);
        due(x.feed(0, 0, 0, 0, 0), 20);
        good(x.menu(0), 0);
        no(x.menu(1), 1);
        told(0, 0);
    }

    private static void menu10BytesBehindTheFirstAreNotSeen() {
        sentence(10, "The first n bytes of the tape (which is empty then) are the MENU");
        feedText("dish ab work 12;");
        no(x.menu(6), 9);
        due(x.fault(0), 2);
        due(x.fault(1), 6);
        feedText("pots 12;");
        no(x.menu(6), 9);
        due(x.fault(0), 2);
        due(x.fault(1), 6);
        feedText("dish a work 1;;;;;;");
        good(x.menu(14), 1);
        feedText("pots 1;      ,,,,,");
        good(x.menu(13), 0);
    }

    private static void menu10OfNoBytes() {
        sentence(10, "The first n bytes of the tape (which is empty then) are the MENU");
        kitchen("pots 1;dish a work 1;");
        feedText("x");
        good(x.menu(0), 0);
        told(0, 0);
        told(1, 0);
        no(x.menu(20), 1);
    }

    private static void menu10BelowZeroOrMoreThanTheTape() {
        sentence(10, "(1: n below 0, or more than the tape has, too; 9: the old one stays)");
        no(x.menu(1), 1);
        feedText("dish a work 1;");
        for (int n : new int[] {-1, Integer.MIN_VALUE, 21, 900, Integer.MAX_VALUE}) {
            no(x.menu(n), 1);
            due(x.fault(0), NONE);
        }
        good(x.menu(14), 1);
    }

    private static void menu10AllThatTheTapeHas() {
        sentence(10, "A MENU is a TEXT of at most 900 bytes.");
        String text = "pots 1;" + " ".repeat(900 - 7 - 14) + "dish a work 9;";
        goodMenu(text, 1);
        good(x.dish(0, 0), 9);
        told(1, 1);
        feedText(text);
        no(x.menu(901), 1);
        good(x.menu(900), 1);
    }

    private static void menu10AsManyTokensAsBytes() {
        sentence(10, "A MENU is a TEXT of at most 900 bytes.");
        menuFault("^" + ";1".repeat(450), 2);
        menuFault("^" + "1;".repeat(450), 2);
        x = new FourPots();
        menuFault("^" + ";a".repeat(450), 2);
        menuFault("^" + "?".repeat(900), 1);
    }

    private static void menu10WithAFaultTheTapeIsEmptyToo() {
        sentence(10, "9: the old one stays");
        kitchen("pots 1 1;dish a work 3;");
        planned("make a;");
        x.make(0);
        menuFault("dish z work 1;^dishes", 2);
        no(x.menu(1), 1);
        due(x.feed(0, 0, 0, 0, 0), 20);
        told(0, 1);
        told(1, 2);
        told(2, 1);
        told(4, 3);
        told(5, 1);
        good(x.cook(NONE), 1);
    }

    private static void menu10InPlaceOfThatAhead() {
        sentence(10, "A MENU that is taken is there in place of that ahead; nothing STANDS then, there is no PLAN.");
        kitchen("pots 1 2;dish a work 3 size 2 keeps 4 burns 5;dish b work 1 from a poured once;dish c work 1;pair b c;");
        planned("make a;");
        x.make(0);
        goodMenu("dish b work 2;dish a work 4;", 2);
        told(0, 2);
        told(1, 0);
        told(2, 0);
        told(3, 0);
        for (int what = 1; what < 7; what++) {
            good(x.dish(0, what), what == 1 ? 1 : 0);
            good(x.dish(1, what), what == 1 ? 1 : 0);
        }
        no(x.dish(1, 7), 6);
        no(x.dish(2, 0), 1);
        no(x.cook(NONE), 6);
        no(x.judged(), 6);
        no(x.work(1), 6);
    }

    private static void menu10WhatWasTrustedIsGoneToo() {
        sentence(10, "nothing STANDS then, there is no PLAN.");
        String menu = "pots 1 1;dish a work 3;dish b work 1;";
        kitchen(menu);
        x.trust(0);
        x.make(1);
        goodMenu(menu, 2);
        told(2, 0);
        told(3, 0);
        no(x.keeps(0), 6);
        good(x.make(0), 1);
    }

    private static void menu10AMenuOfNothing() {
        sentence(10, PARTS);
        goodMenu("", 0);
        goodMenu(" ", 0);
        goodMenu("\n", 0);
        goodMenu("\n \n  ", 0);
    }

    private static void menu10NoBlankWhereATokenEnds() {
        sentence(10, TOKENS);
        goodMenu("dish\na\nwork\n1\n;", 1);
        goodMenu("dish a work1size2keeps3burns4;pots5 6;", 1);
        for (int what = 0; what < 4; what++) {
            good(x.dish(0, what), what + 1);
        }
        good(x.pot(0), 5);
        good(x.pot(1), 6);
        goodMenu("  dish  a  work  1  ;  ", 1);
    }

    private static void menu10TokensGoAsLongAsTheyCan() {
        sentence(10, "TOKENS, as long as they go");
        menuFault("^disha work 1;", 2);
        menuFault("dish a ^worka 1;", 2);
        menuFault("dish a work 1 ^sizes 1;", 2);
        menuFault("pots ^a1;", 2);
        menuFault("pots 1 1^a;", 2);
        goodMenu("pots 9 9;", 0);
        menuFault("pots ^99;", 4);
        goodMenu("dish works work 1;dish ends work 1;dish dishdish work 1;dish o work 1 from works ends once;", 4);
    }

    private static void menu10BytesBesideThoseOfTokens() {
        sentence(10, "between them blanks (10, 32): WORDS (small letters), NUMBERS (1 to 4 digits), the SIGN ;");
        for (int b = 0; b < 256; b++) {
            boolean token = b == 10 || b == 32 || b == ';' || b >= '0' && b <= '9' || b >= 'a' && b <= 'z';
            x = new FourPots();
            if (!token) {
                menuFault("^" + (char) b, 1);
                menuFault("dish a^" + (char) b + "work 1;", 1);
            } else if (b != 10 && b != 32) {
                menuFault("^" + (char) b, 2);
            }
        }
    }

    private static void menu10NumbersOfOneToFourDigits() {
        sentence(10, "NUMBERS (1 to 4 digits)");
        goodMenu("dish a work 7;dish b work 07;dish c work 007;dish d work 0007;", 4);
        for (int d = 0; d < 4; d++) {
            good(x.dish(d, 0), 7);
        }
        menuFault("dish a work ^00007;", 1);
        menuFault("dish a work ^9999;", 4);
        menuFault("dish a work ^99999;", 1);
        menuFault("dish a work ^" + "0".repeat(800), 1);
        menuFault("dish a work ^4294967296;", 1);
    }

    private static void menu10EachMayBeLeftOut() {
        sentence(10, "[size NUMBER] [keeps NUMBER] [burns NUMBER] [from NAME {NAME}] [poured] [once] ;");
        String[] parts = {" size 2", " keeps 3", " burns 4", " from z", " poured", " once"};
        for (int set = 0; set < 64; set++) {
            StringBuilder s = new StringBuilder("dish z work 1;dish a work 5");
            for (int i = 0; i < 6; i++) {
                s.append((set >> i & 1) != 0 ? parts[i] : "");
            }
            x = new FourPots();
            if ((set & 24) == 16) {
                menuFault(s.insert(s.indexOf("poured"), '^').append(';').toString(), 7);
                continue;
            }
            goodMenu(s.append(';').toString(), 2);
            int[] due = {5, (set & 1) != 0 ? 2 : 1, (set & 2) != 0 ? 3 : 0, (set & 4) != 0 ? 4 : 0, set >> 3 & 1,
                set >> 4 & 1, set >> 5 & 1};
            for (int what = 0; what < 7; what++) {
                good(x.dish(1, what), due[what]);
            }
        }
    }

    private static void menu10InNoOtherOrder() {
        sentence(10, PARTS);
        menuFault("dish ^work 1;", 2);
        menuFault("dish a ^size 1 work 1;", 2);
        menuFault("dish a work 1 keeps 1 ^size 1;", 2);
        menuFault("dish a work 1 burns 1 ^keeps 1;", 2);
        menuFault("dish z work 1;dish a work 1 from z ^burns 1;", 2);
        menuFault("dish z work 1;dish a work 1 ^poured from z;", 7);
        menuFault("dish z work 1;dish a work 1 once ^from z;", 2);
        menuFault("dish z work 1;dish a work 1 from z once ^poured;", 2);
        menuFault("dish a work 1 size 1 ^size 1;", 2);
        menuFault("dish a work 1 ^work 1;", 2);
        menuFault("dish z work 1;dish a work 1 from z poured ^poured;", 2);
        menuFault("dish z work 1;dish a work 1 from z once ^once;", 2);
        menuFault("dish a work 1 ^1;", 2);
        menuFault("dish a ^b work 1;", 2);
    }

    private static void menu10NamesOfOneToEightLetters() {
        sentence(10, NAMES);
        for (int n = 1; n <= 8; n++) {
            x = new FourPots();
            goodMenu("dish " + "z".repeat(n) + " work 1;dish b work 1 from " + "z".repeat(n) + ";", 2);
        }
        for (int n : new int[] {9, 10, 13, 64, 800}) {
            menuFault("dish ^" + "z".repeat(n) + " work 1;", 2);
        }
        // Only the whole WORD tells: eight letters alike are another NAME, and so is one letter less.
        goodMenu("dish abcdefgh work 1;dish abcdefgi work 1;dish abcdefg work 1;dish zzzzzzzz work 1;", 4);
    }

    private static void menu10WordsThatAreNoNames() {
        sentence(10, NAMES);
        for (String word : RESERVED) {
            x = new FourPots();
            menuFault("dish ^" + word + " work 1;", 2);
            menuFault("dish a work 1;dish b work 1 from ^" + word + ";", 2);
            menuFault("dish a work 1;pair ^" + word + " a;", 2);
            menuFault("dish a work 1;pair a ^" + word + ";", 2);
            boolean begins = word.equals("dish") || word.equals("pair") || word.equals("pots");
            menuFault(begins ? word + "^;" : "^" + word + ";", 2);
            goodMenu("dish " + word + "s work 1;dish " + word.substring(1) + " work 1;", 2);
        }
        due(RESERVED.length, 23);
    }

    private static void menu10TwelveDishes() {
        sentence(10, "DISHES, at most 12, numbered as they stand:");
        for (int n = 0; n <= 12; n++) {
            x = new FourPots();
            goodMenu(dishes(n), n);
            no(x.dish(n, 0), 1);
            no(x.fits(1 << n), 1);
            good(x.fits((1 << n) - 1), n == 0 ? 1 : 0);
        }
    }

    private static void menu10NumberedAsTheyStand() {
        sentence(10, "numbered as they stand");
        goodMenu("dish z work 10;pots 1;dish m work 11;dish a work 12;", 3);
        for (int d = 0; d < 3; d++) {
            good(x.dish(d, 0), 10 + d);
        }
    }

    private static void menu10WorkZeroTo99() {
        sentence(10, "WORK (0 to 99)");
        goodMenu("dish a work 0;dish b work 99;", 2);
        good(x.dish(0, 0), 0);
        good(x.dish(1, 0), 99);
        menuFault("dish a work ^100;", 4);
    }

    private static void menu10SizeOneToNine() {
        sentence(10, "SIZE of the pot that it needs (1 to 9; 1 without)");
        goodMenu("dish a work 1 size 1;dish b work 1 size 9;dish c work 1;", 3);
        good(x.dish(0, 1), 1);
        good(x.dish(1, 1), 9);
        good(x.dish(2, 1), 1);
        menuFault("dish a work 1 size ^0;", 4);
        menuFault("dish a work 1 size ^10;", 4);
    }

    private static void menu10KeepsOneTo99() {
        sentence(10, "how long it KEEPS (1 to 99 STEPS; without: for ever)");
        goodMenu("dish a work 1 keeps 1;dish b work 1 keeps 99;dish c work 1;", 3);
        good(x.dish(0, 2), 1);
        good(x.dish(1, 2), 99);
        good(x.dish(2, 2), 0);
        menuFault("dish a work 1 keeps ^0;", 4);
        menuFault("dish a work 1 keeps ^100;", 4);
    }

    private static void menu10BurnsZeroToFifteen() {
        sentence(10, "with how many sixteenths it BURNS (0 to 15; 0 without)");
        goodMenu("dish a work 1 burns 0;dish b work 1 burns 15;dish c work 1;", 3);
        good(x.dish(0, 3), 0);
        good(x.dish(1, 3), 15);
        good(x.dish(2, 3), 0);
        menuFault("dish a work 1 burns ^16;", 4);
    }

    private static void menu10NeedsAreToldAhead() {
        sentence(10, "the DISHES that it NEEDS (told ahead)");
        menuFault("dish a work 1 from ^a;", 3);
        menuFault("dish a work 1 from ^b;dish b work 1;", 3);
        goodMenu("dish a work 1;dish b work 1 from a;", 2);
        // From the MENU that is there ahead nothing is told.
        menuFault("dish c work 1 from ^a;", 3);
    }

    private static void menu10ElevenNeeds() {
        sentence(10, "[from NAME {NAME}]");
        goodMenu(dishes(11) + "dish z work 1 from aa ba ca da ea fa ga ha ia ja ka;", 12);
        good(x.dish(11, 4), 2047);
        goodMenu(dishes(11) + "dish z work 1 from ka;", 12);
        good(x.dish(11, 4), 1024);
        menuFault(dishes(11) + "dish z work 1 from aa ba ca da ea fa ga ha ia ja ka ^ka;", 5);
        menuFault(dishes(11) + "dish z work 1 from aa ba ca da ea fa ga ha ia ja ka ^z;", 3);
    }

    private static void menu10PouredAndOnce() {
        sentence(10, "poured: it may be made in the pot of one of those; once: it is used up by the first dish that "
                + "is made of it.");
        kitchen("pots 1;dish a work 1;dish b work 1 from a;dish c work 1 from a poured;");
        x.make(0);
        no(x.pourOver(1, 0), 7);
        good(x.pourOver(2, 0), 4);
        kitchen("pots 1 1 1;dish a work 1 once;dish b work 1 from a;dish c work 1 from a;");
        x.make(0);
        good(x.make(1), 2);
        no(x.make(2), 7);
    }

    private static void menu10SixPairs() {
        sentence(10, "A PAIR are two DISHES of which none is in a PAIR, and none NEEDS the other (nor what needs it ..): "
                + "who makes one makes both.");
        goodMenu(dishes(12) + "pair aa ba;pair da ca;pair ea fa;pair ga ha;pair ia ja;pair la ka;", 12);
        for (int d = 0; d < 12; d++) {
            good(x.dish(d, 7), d ^ 1);
        }
        menuFault(dishes(12) + "pair aa ba;pair ^ba ca;", 5);
    }

    private static void menu10EightPots() {
        sentence(10, "POTS, at most 8: their sizes (1 to 9; none without).");
        goodMenu("", 0);
        told(1, 0);
        goodMenu("pots 9;", 0);
        told(1, 1);
        goodMenu("pots 1 2 3 4 5 6 7 9;", 0);
        told(1, 8);
        good(x.pot(7), 9);
        menuFault("pots ^0;", 4);
        menuFault("pots ^10;", 4);
        menuFault("pots 1 2 3 4 5 6 7 8 ^9;", 6);
    }

    // ---- 12: fault

    private static void fault12AheadOfAny() {
        sentence(12, "NONE for others, and ahead of any.");
        for (int what : new int[] {0, 1, 2, -1}) {
            due(x.fault(what), NONE);
        }
        no(x.menu(1), 1);
        no(x.plan(-1), 1);
        due(x.fault(0), NONE);
        due(x.fault(1), NONE);
    }

    private static void fault12WithoutOne() {
        sentence(12, "what 0: the FAULT (0 without one), 1: its place (NONE without).");
        good(x.menu(0), 0);
        due(x.fault(0), 0);
        due(x.fault(1), NONE);
        x = new FourPots();
        good(x.plan(0), 0);
        due(x.fault(0), 0);
        due(x.fault(1), NONE);
    }

    private static void fault12ForOthers() {
        sentence(12, "NONE for others");
        menuFault("dish ^1;", 2);
        for (int what : new int[] {-1, 2, 3, Integer.MIN_VALUE, Integer.MAX_VALUE}) {
            due(x.fault(what), NONE);
        }
        menuFault("^1;", 2);
        due(x.fault(1), 0);
    }

    private static void fault12OfTheLatestWithZeroOrNine() {
        sentence(12, "Of the latest menu() or plan() with STATUS 0 or 9");
        menuFault("dish ^1;", 2);
        no(x.menu(1), 1);
        no(x.plan(1), 1);
        no(x.menu(-1), 1);
        due(x.fault(0), 2);
        due(x.fault(1), 5);
        goodMenu("dish a work 1;", 1);
        planFault("make ^b;", 3);
        no(x.plan(301), 1);
        due(x.fault(0), 3);
        due(x.fault(1), 5);
        goodPlan("make a;", 1);
        menuFault("^,", 1);
        goodPlan("", 0);
        planFault("^,", 1);
        goodMenu("", 0);
    }

    private static void fault12TheFirstAlongTheText() {
        sentence(12, "FAULTS, the first along the text (of one TOKEN the least kind):");
        menuFault("dish a work ^100 size 0,;", 4);
        menuFault("dish a work 1 ^poured ,", 7);
        menuFault("dish a work 1;dish ^a work 12345;", 3);
        menuFault("pots 1;^pots 0;", 5);
        menuFault("dish a work 1;pair a ^a ,", 5);
        menuFault("pots 1 1 1 1 1 1 1 1 ^1 ,", 6);
        menuFault(dishes(12) + "^dish aa", 6);
        menuFault("dish ^stop work 100;", 2);
        menuFault("^, dish dish", 1);
    }

    private static void fault12OfOneTokenTheLeastKind() {
        sentence(12, "(of one TOKEN the least kind)");
        menuFault("pots 1 1 1 1 1 1 1 1 ^0;", 4);
        menuFault("pots 1 1 1 1 1 1 1 1 ^10;", 4);
        menuFault("pots 1 1 1 1 1 1 1 1 ^10000;", 1);
        menuFault("dish a work 1 once ^poured;", 2);
        menuFault("dish ^12345", 1);
        menuFault("dish a work 1;dish b work 1 from a ^12345", 1);
        menuFault("pots ^dish", 2);
        menuFault(dishes(12) + "pair ^dish", 2);
        menuFault("pots 1 ^pots", 2);
        menuFault("dish a work 1;dish b work 1;pair a b;pair ^z a;", 3);
        menuFault("dish a work 1;dish b work 1 from a ^aaaaaaaaa;", 2);
    }

    private static void fault12NoTokenBeginsSo() {
        sentence(12, "1 no TOKEN begins so (a NUMBER of 5 digits and more: at its first).");
        menuFault("^A", 1);
        menuFault("dish ^Ab work 1;", 1);
        menuFault("dish a^Bc work 1;", 1);
        menuFault("dish a work ^-1;", 1);
        menuFault("dish a work 1^.5;", 1);
        menuFault("dish a work 1;^\r\n", 1);
        menuFault("dish a work 1;^\t", 1);
        menuFault("dish a work 1;^\0", 1);
        menuFault("dish a work ^12345;", 1);
        menuFault("pots 1 ^123456789012345678901234567890", 1);
        menuFault("^00000", 1);
    }

    private static void fault12ItCannotStandThere() {
        sentence(12, "2 it can't stand there");
        menuFault("^;", 2);
        menuFault("dish a work 1;^;", 2);
        menuFault("^1", 2);
        menuFault("^a", 2);
        menuFault("^work 1;", 2);
        menuFault("^make a;", 2);
        menuFault("dish ^;", 2);
        menuFault("dish a ^;", 2);
        menuFault("dish a work ^;", 2);
        menuFault("dish a work ^a;", 2);
        menuFault("dish a work 1 size ^;", 2);
        menuFault("dish a work 1 keeps ^size;", 2);
        menuFault("dish a work 1 burns ^from;", 2);
        menuFault("dish a work 1 from ^;", 2);
        menuFault("dish a work 1;dish b work 1 from ^poured;", 2);
        menuFault("dish a work 1;dish b work 1 from a ^1;", 2);
        menuFault("dish a work 1;dish b work 1 from a ^dish;", 2);
        menuFault("pots ^;", 2);
        menuFault("pots ^a;", 2);
        menuFault("pots 1 ^a;", 2);
        menuFault("pair ^;", 2);
        menuFault("pair ^1;", 2);
        menuFault(THREE + "pair a ^;", 2);
        menuFault(THREE + "pair a ^1;", 2);
        menuFault(THREE + "pair a b ^c;", 2);
        menuFault(THREE + "pair a b ^1;", 2);
    }

    /** Cut behind each of its tokens, with and without blanks behind it, a MENU ends too early or is whole. */
    private static void fault12TheEndIsAtTheTextsLength() {
        sentence(12, "(the end: the text's length;");
        String text = "pots 1 2 ; dish a work 1 size 2 keeps 3 burns 4 ; dish b work 5 from a poured once ; "
                + "dish c work 6 ; pair b c ;";
        int dishes = 0;
        for (int n = 0; n <= text.length(); n++) {
            boolean tokenEnds = n == text.length() || text.charAt(n) == ' ';
            if (!tokenEnds) {
                continue;
            }
            x = new FourPots();
            String cut = text.substring(0, n);
            boolean whole = cut.endsWith(";");
            dishes += whole && !cut.endsWith("2 ;") && !cut.endsWith("c ;") ? 1 : 0;
            for (String blanks : new String[] {"", " ", "\n\n"}) {
                if (whole) {
                    goodMenu(cut + blanks, dishes);
                } else {
                    menuFault(cut + blanks + "^", 2);
                }
            }
        }
        due(dishes, 3);
    }

    private static void fault12NineLettersWhereANameMustStand() {
        sentence(12, "a WORD of 9 letters and more where a NAME must stand)");
        menuFault("dish ^abcdefghi work 1;", 2);
        menuFault("dish a work 1;dish b work 1 from ^abcdefghi;", 2);
        menuFault("dish a work 1;dish b work 1 from a ^abcdefghi;", 2);
        menuFault("pair ^abcdefghi a;", 2);
        menuFault(THREE + "pair a ^abcdefghi;", 2);
        menuFault("^abcdefghi", 2);
        menuFault("^dishdishdish", 2);
    }

    private static void fault12ANameThatIsTaken() {
        sentence(12, "3 a dish's NAME that is taken;");
        menuFault("dish a work 1;dish ^a work 1;", 3);
        menuFault("dish abcdefgh work 1;dish b work 1;dish ^abcdefgh", 3);
        menuFault(dishes(11) + "dish ^ka work 1;", 3);
        // A NAME of the MENU that is there is not taken.
        goodMenu("dish a work 1;", 1);
        goodMenu("dish a work 1;", 1);
    }

    private static void fault12ANameThatIsNoDish() {
        sentence(12, "a NAME that is no DISH told ahead.");
        menuFault("dish a work 1 from ^b;", 3);
        menuFault("dish a work 1 from ^a;", 3);
        menuFault("dish a work 1;dish b work 1 from a ^c;", 3);
        menuFault("pair ^a b;dish a work 1;dish b work 1;", 3);
        menuFault("dish a work 1;pair a ^b;dish b work 1;", 3);
        menuFault("dish a work 1;pair ^aa a;", 3);
    }

    private static void fault12ANumberThatCannotBe() {
        sentence(12, "4 a NUMBER that can't be.");
        menuFault("dish a work ^100;", 4);
        menuFault("dish a work ^9999;", 4);
        menuFault("dish a work 1 size ^0000;", 4);
        menuFault("dish a work 1 size ^10;", 4);
        menuFault("dish a work 1 keeps ^0;", 4);
        menuFault("dish a work 1 keeps ^100;", 4);
        menuFault("dish a work 1 burns ^16;", 4);
        menuFault("pots ^0;", 4);
        menuFault("pots 1 ^10;", 4);
        goodMenu("dish a work 0000 size 0009 keeps 0099 burns 0015;pots 0009;", 1);
    }

    private static void fault12ADishAgainBehindFrom() {
        sentence(12, "5 a DISH again behind from (at it);");
        menuFault("dish a work 1;dish b work 1 from a ^a;", 5);
        menuFault(THREE + "dish d work 1 from a b c ^b", 5);
        goodMenu(THREE + "dish d work 1 from c a b;dish e work 1 from c a b;", 5);
    }

    private static void fault12PotsToldAlready() {
        sentence(12, "pots told already (at that WORD);");
        menuFault("pots 1;^pots 2;", 5);
        menuFault("pots 1;dish a work 1;^pots ;", 5);
        menuFault("pots 1 1 1 1 1 1 1 1;^pots 1;", 5);
        // Of the MENU ahead none are told.
        goodMenu("pots 1;", 0);
        goodMenu("pots 2;", 0);
    }

    private static void fault12APairWithOneThatIsInAPair() {
        sentence(12, "a pair with one that is in a PAIR (at that NAME)");
        menuFault(THREE + "pair a b;pair ^a c;", 5);
        menuFault(THREE + "pair a b;pair ^b c;", 5);
        menuFault(THREE + "pair a b;pair c ^a;", 5);
        menuFault(THREE + "pair a b;pair c ^b;", 5);
        menuFault(THREE + "pair a b;pair ^a b;", 5);
        menuFault(THREE + "pair a b;pair ^b ,", 5);
    }

    private static void fault12APairWithItself() {
        sentence(12, "with itself");
        menuFault(THREE + "pair a ^a;", 5);
        menuFault(THREE + "pair c ^c", 5);
    }

    private static void fault12APairWithOneThatNeedsTheOther() {
        sentence(12, "with one that NEEDS the other or what needs it (at the second NAME).");
        menuFault("dish a work 1;dish b work 1 from a;pair a ^b;", 5);
        menuFault("dish a work 1;dish b work 1 from a;pair b ^a;", 5);
        menuFault(chain(12, 1) + "pair a ^l;", 5);
        menuFault(chain(12, 1) + "pair l ^a;", 5);
        menuFault(THREE + "dish d work 1 from a b;dish e work 1 from c d;pair b ^e;", 5);
        // Both may need the same one, and one may be needed by what the other is not.
        goodMenu("dish a work 1;dish b work 1 from a;dish c work 1 from a;dish d work 1 from b;pair b c;", 4);
        goodMenu("dish a work 1;dish b work 1 from a;dish c work 1 from a;dish d work 1 from b;pair c d;", 4);
    }

    private static void fault12AThirteenthDish() {
        sentence(12, "6 a 13th dish (at that WORD);");
        menuFault(dishes(12) + "^dish z work 1;", 6);
        menuFault(dishes(12) + "^dish", 6);
        menuFault(dishes(12) + "pots 1; ^dish ,", 6);
        goodMenu(dishes(12) + "pots 1;", 12);
    }

    private static void fault12ANinthPot() {
        sentence(12, "a ninth POT (at it).");
        menuFault("pots 1 1 1 1 1 1 1 1 ^1;", 6);
        menuFault("pots 9 9 9 9 9 9 9 9 ^9 9;", 6);
        goodMenu("pots 1 1 1 1 1 1 1 1 ;", 0);
    }

    private static void fault12PouredWithoutFrom() {
        sentence(12, "7 poured without from (at that WORD).");
        menuFault("dish a work 1 ^poured;", 7);
        menuFault("dish a work 1 size 1 keeps 1 burns 1 ^poured once;", 7);
        menuFault("dish a work 1;dish b work 1 from a poured;dish c work 1 ^poured;", 7);
    }

    // ---- 13: told

    private static void told13SetsAndCounts() {
        sentence(13, "How many DISHES (what 0), POTS (1); by hand: what STANDS (2), what of it is TRUSTED (3): sets; "
                + "WORK (4), STEPS (5) done (1).");
        kitchen("pots 1 1 1 1 1 1 1 1;" + dishes(12));
        x.make(11);
        x.trust(10);
        x.make(0);
        told(0, 12);
        told(1, 8);
        told(2, 2048 + 1024 + 1);
        told(3, 1024);
        told(4, 2);
        told(5, 3);
    }

    private static void told13WhatCannotBe() {
        sentence(13, "(1)");
        for (int what : new int[] {-1, 6, 7, Integer.MIN_VALUE, Integer.MAX_VALUE}) {
            no(x.told(what), 1);
        }
    }

    private static void told13OnlyByHand() {
        sentence(13, "by hand: what STANDS (2)");
        kitchen("pots 1 1;dish a work 3;dish b work 4;");
        planned("make a;trust b;");
        x.cook(NONE);
        x.first(3);
        for (int what = 2; what <= 5; what++) {
            told(what, 0);
        }
    }

    // ---- 14: dish

    private static void dish14WhatCannotBe() {
        sentence(14, "Of a DISH, what 0: WORK, 1: SIZE, 2: how long it KEEPS (0: for ever), 3: BURNS, 4: the set that it "
                + "NEEDS, 5: 1 if it is poured, else 0, 6: 1 if it is once, else 0, 7: its partner (6: none), 8: LAYER "
                + "(1; 6).");
        kitchen("dish a work 9;dish b work 8 size 7 keeps 6 burns 5 from a poured once;");
        long[] due = {8, 7, 6, 5, 1, 1, 1};
        for (int what = 0; what < 7; what++) {
            good(x.dish(1, what), due[what]);
        }
        good(x.dish(1, 8), 1);
        for (int what : new int[] {-1, 9, 10, Integer.MIN_VALUE, Integer.MAX_VALUE}) {
            no(x.dish(0, what), 1);
        }
        no(x.dish(2, 0), 1);
        no(x.dish(-1, 0), 1);
    }

    private static void dish14NoPartner() {
        sentence(14, "7: its partner (6: none)");
        kitchen(THREE + "pair c a;");
        good(x.dish(0, 7), 2);
        no(x.dish(1, 7), 6);
        good(x.dish(2, 7), 0);
        no(x.dish(3, 7), 1);
    }

    private static void dish14LayersOfAChain() {
        sentence(14, "LAYER of a DISH: 0 if it NEEDS nothing, else one more than the greatest of what it NEEDS.");
        kitchen(chain(12, 1));
        for (int d = 0; d < 12; d++) {
            good(x.dish(d, 8), d);
        }
        kitchen(THREE + "dish d work 1 from a;dish e work 1 from d;dish f work 1 from b e c;dish g work 1 from c;"
            + "pair a g;");
        good(x.dish(5, 8), 3);
        good(x.dish(6, 8), 1);
        good(x.dish(0, 8), 0);
    }

    // ---- 15: pot

    private static void pot15NoneSuch() {
        sentence(15, "The size of the k-th POT, as told (6: none such).");
        no(x.pot(0), 6);
        kitchen("pots 9 1 5 5 2 8 3 7;");
        int[] due = {9, 1, 5, 5, 2, 8, 3, 7};
        for (int k = 0; k < 8; k++) {
            good(x.pot(k), due[k]);
        }
        for (int k : new int[] {8, 9, -1, Integer.MIN_VALUE, Integer.MAX_VALUE}) {
            no(x.pot(k), 6);
        }
        kitchen("pots 1;");
        good(x.pot(0), 1);
        no(x.pot(1), 6);
    }

    // ---- 16: fits

    private static final String FITS = "A set FITS, if for each size there are at least as many POTS that are so big or "
            + "bigger as DISHES in it that need one so big or bigger (which stands in which does not matter).";

    private static void fits16TheEmptySet() {
        sentence(16, "1 if a set FITS, else 0 (1).");
        good(x.fits(0), 1);
        kitchen("dish a work 1;");
        good(x.fits(0), 1);
        good(x.fits(1), 0);
    }

    private static void fits16AsManyAndOneMore() {
        sentence(16, FITS);
        kitchen("pots 1 1 1 1 1 1 1 1;" + dishes(12));
        good(x.fits(255), 1);
        good(x.fits(255 << 4), 1);
        good(x.fits(511), 0);
        good(x.fits(4095), 0);
    }

    private static void fits16EachSizeHasItsEdge() {
        sentence(16, FITS);
        for (int size = 1; size <= 9; size++) {
            for (int pot = 1; pot <= 9; pot++) {
                kitchen("pots " + pot + ";dish a work 1 size " + size + ";");
                good(x.fits(1), pot >= size ? 1 : 0);
            }
        }
    }

    private static void fits16TheBiggerPotsCountForTheSmaller() {
        sentence(16, "at least as many POTS that are so big or bigger as DISHES in it that need one so big or bigger");
        kitchen("pots 9 5 1;dish a work 1;dish b work 1;dish c work 1;dish d work 1 size 5;dish e work 1 size 5;"
            + "dish f work 1 size 6;dish g work 1 size 9;dish h work 1 size 2;");
        good(x.fits(7), 1);
        good(x.fits(1 + 8 + 16), 1);
        good(x.fits(8 + 16 + 128), 0);
        good(x.fits(1 + 8 + 32), 1);
        good(x.fits(32 + 64), 0);
        good(x.fits(1 + 16 + 64), 1);
        good(x.fits(16 + 64 + 128), 0);
        good(x.fits(1 + 2 + 8 + 16), 0);
    }

    /** Of each of the nine sizes there are too few pots, and of the biggest one none at all. */
    private static void fits16AllNineSizesAtOnce() {
        sentence(16, "for each size");
        StringBuilder menu = new StringBuilder("pots 8 8 8;");
        for (int d = 0; d < 12; d++) {
            menu.append("dish ").append((char) ('a' + d)).append(" work 1 size ").append(Math.min(d + 1, 9)).append(';');
        }
        kitchen(menu.toString());
        good(x.fits(256), 0);
        good(x.fits(2048), 0);
        good(x.fits(128), 1);
        good(x.fits(1 + 64 + 128), 1);
        good(x.fits(1 + 32 + 64 + 128), 0);
        for (int small = 0; small < 8; small++) {
            good(x.fits(1 << small | 512), 0);
            good(x.fits(1 << small), 1);
        }
    }

    private static void fits16WhateverStandsByHand() {
        sentence(16, "1 if a set FITS, else 0 (1).");
        kitchen("pots 1;dish a work 1;dish b work 1;");
        x.make(0);
        good(x.fits(2), 1);
        good(x.fits(3), 0);
        no(x.fits(4), 1);
        no(x.fits(-1), 1);
    }

    private static void fits16SetsAreBitsOfDishes() {
        sentence(16, "What STANDS is a set of DISHES (1 for DISH 0, 2 for DISH 1 ..), each MADE or TRUSTED.");
        kitchen("pots 1;" + dishes(11) + "dish z work 1 size 2;");
        for (int d = 0; d < 11; d++) {
            good(x.fits(1 << d), 1);
        }
        good(x.fits(2048), 0);
    }

    // ---- 17: needed

    private static final String NEEDED = "NEEDED for a set: it and all that it, and what it NEEDS, .. NEEDS (partners, too, "
            + "and what they NEED).";

    private static void needed17OfNothingAndOfAll() {
        sentence(17, "What is NEEDED for a set (1).");
        good(x.needed(0), 0);
        no(x.needed(1), 1);
        kitchen(chain(12, 1));
        good(x.needed(0), 0);
        good(x.needed(1), 1);
        good(x.needed(2048), 4095);
        good(x.needed(4095), 4095);
        good(x.needed(1 + 32), 63);
        no(x.needed(4096), 1);
        no(x.needed(-1), 1);
    }

    private static void needed17PartnersAndWhatTheyNeed() {
        sentence(17, NEEDED);
        kitchen("dish a work 1;dish b work 1 from a;dish c work 1;dish d work 1 from c;pair b d;dish e work 1 from b;"
            + "dish f work 1;");
        good(x.needed(2), 15);
        good(x.needed(8), 15);
        good(x.needed(16), 31);
        good(x.needed(4), 4);
        good(x.needed(1 + 32), 33);
    }

    /** Each partner needs one of the next pair: the way leads up and down the numbers. */
    private static void needed17ALongWayOverPartners() {
        sentence(17, NEEDED);
        kitchen(dishes(6) + "dish g work 1 from aa;dish h work 1 from ba;dish i work 1 from ca;dish j work 1 from da;"
            + "dish k work 1 from ea;dish l work 1 from fa;pair ba g;pair ca h;pair da i;pair ea j;pair fa k;");
        good(x.needed(2048), 4095);
        good(x.needed(2), 1 + 2 + 64);
    }

    public static void main(String[] args) throws IllegalAccessException {
        runAll(MenuEdgesTest.class);
    }
}
