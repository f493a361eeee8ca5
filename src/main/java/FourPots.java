import java.util.Arrays;

/**
 * A kitchen in which every dish needs others made first, and each stands in a pot until it is thrown
 * away. What it promises stands in the project's document; the words in capital letters are told there.
 */
public final class FourPots {
    public static final int NONE = -1;

    private static final int MOST_DISHES = 12;
    private static final int MOST_POTS = 8;
    private static final int MOST_MARKS = 3;
    private static final int MOST_TRUSTFUL = 8;
    private static final int MOST_COOKS = 4;
    private static final int MOST_ODDS = 30;
    private static final int MOST_TAPE = 900;
    private static final int MOST_PLAN = 300;
    private static final int BIGGEST_POT = 9;
    private static final int BIGGEST_WORK = 99;
    private static final int LONGEST_KEPT = 99;
    private static final int MOST_BURNS = 15;
    private static final int MOST_SEED = 9999;
    private static final int ALL_SETS = 1 << MOST_DISHES;
    /** Above the turns that any loop without a told bound can need. */
    private static final int MANY_TURNS = 1000000;

    private static final int STATUS_NUMBER = 1;
    private static final int STATUS_MISSING = 2;
    private static final int STATUS_PLACE = 3;
    private static final int STATUS_TOO_MANY = 4;
    private static final int STATUS_NO_SUCH = 6;
    private static final int STATUS_CANNOT = 7;
    private static final int STATUS_UNLIKE = 8;
    private static final int STATUS_FAULT = 9;

    private static final int FAULT_TOKEN = 1;
    private static final int FAULT_PLACE = 2;
    private static final int FAULT_NAME = 3;
    private static final int FAULT_NUMBER = 4;
    private static final int FAULT_AGAIN = 5;
    private static final int FAULT_TOO_MANY = 6;
    private static final int FAULT_FORM = 7;

    /** The words that are no names; a word's place here is the number of its token below. */
    private static final String WORDS =
            "dish work size keeps burns from poured once pair pots make pour over wash trust show when stands trusted full loop end stop ";
    private static final int DISH = 0;
    private static final int WORK = 1;
    private static final int SIZE = 2;
    private static final int KEEPS = 3;
    private static final int BURNS = 4;
    private static final int FROM = 5;
    private static final int POURED = 6;
    private static final int ONCE = 7;
    private static final int PAIR = 8;
    private static final int POTS = 9;
    private static final int MAKE = 10;
    private static final int POUR = 11;
    private static final int OVER = 12;
    private static final int WASH = 13;
    private static final int TRUST = 14;
    private static final int SHOW = 15;
    private static final int WHEN = 16;
    private static final int STANDS = 17;
    private static final int TRUSTED = 18;
    private static final int FULL = 19;
    private static final int LOOP = 20;
    private static final int END = 21;
    private static final int STOP = 22;
    private static final int WORD_COUNT = 23;
    private static final int NAME = 30;
    private static final int LONG_WORD = 31;
    private static final int NUMBER = 32;
    private static final int SIGN = 33;
    private static final int TEXT_END = 34;
    private static final int NO_TOKEN = 35;

    private int status;
    private long top;
    private long bottom;
    private final Trays trays;
    private final Text text;
    private final MenuReader menuReader;
    private final PlanReader planReader;
    /** What is now stands at the place that marks tells; each MARK's state stands below it. */
    private final Menu[] menus;
    private final Plan[] plans;
    private final Hand[] hands;
    private int marks;
    private final Least leastWork;
    private final Least leastOther;
    private final Least leastSteps;
    private final Fewest fewestPots;
    private final Fewest fewestTrusting;
    private final Rounds roundsOfCooks;
    /** What cook() left, for cooked(); judged() and odds() cook with another hand. */
    private final Hand cookHand;
    private final Hand trialHand;
    private boolean cookedOnce;

    public FourPots() {
        status = 0;
        top = 0;
        bottom = 1;
        trays = new Trays();
        text = new Text();
        menuReader = new MenuReader(text);
        planReader = new PlanReader(text);
        menus = new Menu[MOST_MARKS + 1];
        plans = new Plan[MOST_MARKS + 1];
        hands = new Hand[MOST_MARKS + 1];
        for (int i = 0; i <= MOST_MARKS; i++) {
            menus[i] = new Menu();
            plans[i] = new Plan();
            hands[i] = new Hand();
        }
        marks = 0;
        leastWork = new Least(true);
        leastOther = new Least(true);
        leastSteps = new Least(false);
        fewestPots = new Fewest(false);
        fewestTrusting = new Fewest(true);
        roundsOfCooks = new Rounds();
        cookHand = new Hand();
        trialHand = new Hand();
        cookedOnce = false;
    }

    public int status() {
        return status;
    }

    public long top() {
        return top;
    }

    public long bottom() {
        return bottom;
    }

    // ---- TRAYS

    public boolean tray(int tray, int sort, int many) {
        boolean can = trays.isTray(tray) && trays.isSort(sort) && many >= 0 && many <= Trays.LONGEST;
        if (!can) {
            return denied(STATUS_NUMBER);
        }
        trays.lay(tray, sort, many);
        return granted();
    }

    public boolean write(int tray, int place, long v) {
        int why = trays.whyNot(tray, place);
        if (why != 0) {
            return denied(why);
        }
        trays.put(tray, place, v);
        return granted();
    }

    public long read(int tray, int place) {
        status = trays.whyNot(tray, place);
        return status == 0 ? trays.numberAt(tray, place) : NONE;
    }

    public boolean pour(int from, int place, int to, int at, int many) {
        boolean can = trays.isTray(from) && trays.isTray(to) && place >= 0 && at >= 0 && many >= 0;
        if (!can) {
            return denied(STATUS_NUMBER);
        }
        if (!trays.isThere(from) || !trays.isThere(to)) {
            return denied(STATUS_MISSING);
        }
        if (!trays.areAlike(from, to)) {
            return denied(STATUS_UNLIKE);
        }
        if (!trays.hasRun(from, place, many) || !trays.hasRun(to, at, many)) {
            return denied(STATUS_PLACE);
        }
        trays.carry(from, place, to, at, many);
        return granted();
    }

    // ---- the MENU

    public int feed(int a, int b, int c, int d, int e) {
        if (!text.hasRoom()) {
            return NONE;
        }
        text.append(a);
        text.append(b);
        text.append(c);
        text.append(d);
        text.append(e);
        return text.taped;
    }

    public int menu(int n) {
        if (n < 0 || n > text.taped) {
            return refuse(STATUS_NUMBER);
        }
        boolean good = menuReader.readMenu(n);
        text.emptyTape();
        if (!good) {
            return refuse(STATUS_FAULT);
        }
        here().copyFrom(menuReader.draft);
        hands[marks].clear();
        plans[marks].clear();
        return answer(here().count);
    }

    public int plan(int n) {
        if (n < 0 || n > text.taped || n > MOST_PLAN) {
            return refuse(STATUS_NUMBER);
        }
        boolean good = planReader.readPlan(here(), n);
        text.emptyTape();
        if (!good) {
            return refuse(STATUS_FAULT);
        }
        plans[marks].copyFrom(planReader.draft);
        return answer(plans[marks].count);
    }

    public int fault(int what) {
        if (what == 0) {
            return text.fault;
        }
        return what == 1 ? text.faultPlace : NONE;
    }

    public int told(int what) {
        Hand hand = hands[marks];
        switch (what) {
            case 0:
                return answer(here().count);
            case 1:
                return answer(here().potCount);
            case 2:
                return answer(hand.stands);
            case 3:
                return answer(hand.trusted);
            case 4:
                return answer(hand.work);
            case 5:
                return answer(hand.steps);
            default:
                return refuse(STATUS_NUMBER);
        }
    }

    public int dish(int dish, int what) {
        Menu menu = here();
        if (!menu.has(dish) || what < 0 || what > 8) {
            return refuse(STATUS_NUMBER);
        }
        if (what == 7 && menu.partner[dish] == NONE) {
            return refuse(STATUS_NO_SUCH);
        }
        return answer(menu.tellDish(dish, what));
    }

    public int pot(int k) {
        Menu menu = here();
        if (k < 0 || k >= menu.potCount) {
            return refuse(STATUS_NO_SUCH);
        }
        return answer(menu.pots[k]);
    }

    public int fits(int set) {
        if (!here().hasSet(set)) {
            return refuse(STATUS_NUMBER);
        }
        return answer(here().room.holds(set) ? 1 : 0);
    }

    public int needed(int set) {
        if (!here().hasSet(set)) {
            return refuse(STATUS_NUMBER);
        }
        return answer(here().allNeeded(set));
    }

    // ---- by hand

    public int make(int dish) {
        if (!here().has(dish)) {
            return refuse(STATUS_NUMBER);
        }
        return afterStep(hands[marks].doMake(here(), dish));
    }

    public int pourOver(int dish, int over) {
        if (!here().has(dish) || !here().has(over)) {
            return refuse(STATUS_NUMBER);
        }
        return afterStep(hands[marks].doPour(here(), dish, over));
    }

    public int wash(int dish) {
        if (!here().has(dish)) {
            return refuse(STATUS_NUMBER);
        }
        return afterStep(hands[marks].doWash(dish));
    }

    public int trust(int dish) {
        if (!here().has(dish)) {
            return refuse(STATUS_NUMBER);
        }
        return afterStep(hands[marks].doTrust(here(), dish));
    }

    public int show(int dish) {
        if (!here().has(dish)) {
            return refuse(STATUS_NUMBER);
        }
        return afterStep(hands[marks].doShow(here(), dish));
    }

    public int keeps(int dish) {
        if (!here().has(dish)) {
            return refuse(STATUS_NUMBER);
        }
        if ((hands[marks].stands & 1 << dish) == 0) {
            return refuse(STATUS_NO_SUCH);
        }
        return answer(hands[marks].stepsLeft(here(), dish));
    }

    public boolean empty() {
        hands[marks].clear();
        return granted();
    }

    // ---- the fewest and the least

    public int work(int goal) {
        if (!here().hasSet(goal)) {
            return refuse(STATUS_NUMBER);
        }
        leastWork.useKitchen(here(), 0);
        return found(leastWork.seekWork(goal));
    }

    public int steps(int goal) {
        if (!here().hasSet(goal)) {
            return refuse(STATUS_NUMBER);
        }
        leastSteps.useKitchen(here(), 0);
        return found(leastSteps.seekKey(goal));
    }

    public int first(int goal) {
        if (!here().hasSet(goal)) {
            return refuse(STATUS_NUMBER);
        }
        leastWork.useKitchen(here(), 0);
        return found(leastWork.findPath(goal));
    }

    public int firstAt(int k, int what) {
        if (what < 0 || what > 2) {
            return refuse(STATUS_NUMBER);
        }
        if (k < 0 || k >= leastWork.pathLength || k >= leastWork.path.length) {
            return refuse(STATUS_NO_SUCH);
        }
        return found(Least.tellMove(leastWork.path[k], what));
    }

    public int fewest(int goal) {
        if (!here().hasSet(goal)) {
            return refuse(STATUS_NUMBER);
        }
        fewestPots.use(here(), here().allDishes(), here().leastBound(goal));
        return found(fewestPots.seekPots(goal));
    }

    public int curve(int goal, int pots) {
        if (!here().hasSet(goal) || pots < 0 || pots > MOST_DISHES) {
            return refuse(STATUS_NUMBER);
        }
        leastOther.useBigPots(here(), pots);
        return found(leastOther.seekWork(goal));
    }

    public int trustful(int goal) {
        if (!here().hasSet(goal)) {
            return refuse(STATUS_NUMBER);
        }
        int scope = here().allNeeded(goal);
        if (Integer.bitCount(scope) > MOST_TRUSTFUL) {
            return refuse(STATUS_TOO_MANY);
        }
        fewestTrusting.use(here(), scope, Integer.bitCount(goal));
        return found(fewestTrusting.seekPots(goal));
    }

    public int bound(int goal) {
        if (!here().hasSet(goal)) {
            return refuse(STATUS_NUMBER);
        }
        return answer(here().leastBound(goal));
    }

    public int treeRule(int dish) {
        if (!here().has(dish)) {
            return refuse(STATUS_NUMBER);
        }
        int number = here().treeNumber(dish);
        return number == NONE ? refuse(STATUS_CANNOT) : answer(number);
    }

    public int rounds(int goal, int cooks) {
        if (!here().hasSet(goal) || cooks < 1 || cooks > MOST_COOKS) {
            return refuse(STATUS_NUMBER);
        }
        return found(roundsOfCooks.countRounds(here(), goal, cooks));
    }

    public int spared(int goal, int size) {
        if (!here().hasSet(goal) || size < 1 || size > BIGGEST_POT) {
            return refuse(STATUS_NUMBER);
        }
        leastWork.useKitchen(here(), 0);
        int without = leastWork.seekWork(goal);
        if (without == NONE) {
            return refuse(STATUS_NO_SUCH);
        }
        leastOther.useKitchen(here(), size);
        return answer(without - leastOther.seekWork(goal));
    }

    public boolean again(int goal) {
        if (!here().hasSet(goal)) {
            return denied(STATUS_NUMBER);
        }
        int once = here().workOnce(goal);
        leastWork.useKitchen(here(), 0);
        int least = leastWork.seekWork(goal);
        if (least == NONE || once == 0) {
            return denied(STATUS_NO_SUCH);
        }
        tellFraction(least, once);
        return granted();
    }

    // ---- PLANS

    public int cook(int seed) {
        if (seed < NONE || seed > MOST_SEED) {
            return refuse(STATUS_NUMBER);
        }
        if (!plans[marks].there) {
            return refuse(STATUS_NO_SUCH);
        }
        plans[marks].runWith(here(), cookHand, seed);
        cookedOnce = true;
        return answer(cookHand.stands);
    }

    public int cooked(int what) {
        if (what < 0 || what > 6) {
            return refuse(STATUS_NUMBER);
        }
        if (!cookedOnce) {
            return refuse(STATUS_NO_SUCH);
        }
        return answer(cookHand.tellCooked(what));
    }

    public int judged() {
        if (!plans[marks].there) {
            return refuse(STATUS_NO_SUCH);
        }
        plans[marks].runWith(here(), trialHand, NONE);
        return found(trialHand.firstMissed);
    }

    public boolean odds(int goal, int seed, int many) {
        boolean can = here().hasSet(goal) && seed >= 0 && many >= 1 && many <= MOST_ODDS
                && seed <= MOST_SEED - many + 1;
        if (!can) {
            return denied(STATUS_NUMBER);
        }
        if (!plans[marks].there) {
            return denied(STATUS_NO_SUCH);
        }
        int reached = 0;
        for (int i = 0; i < many; i++) {
            plans[marks].runWith(here(), trialHand, seed + i);
            if ((goal & ~trialHand.madeOnes()) == 0) {
                reached++;
            }
        }
        tellFraction(reached, many);
        return granted();
    }

    // ---- MARKS

    public int mark() {
        if (marks >= MOST_MARKS) {
            return refuse(STATUS_TOO_MANY);
        }
        menus[marks + 1].copyFrom(menus[marks]);
        plans[marks + 1].copyFrom(plans[marks]);
        hands[marks + 1].copyFrom(hands[marks]);
        marks++;
        return answer(marks);
    }

    public int back() {
        if (marks <= 0) {
            return refuse(STATUS_NO_SUCH);
        }
        marks--;
        return answer(marks);
    }

    // ---- what the calls share

    private Menu here() {
        return menus[marks];
    }

    private int answer(int value) {
        status = 0;
        return value;
    }

    private int refuse(int why) {
        status = why;
        return NONE;
    }

    private int found(int value) {
        return value == NONE ? refuse(STATUS_NO_SUCH) : answer(value);
    }

    private boolean granted() {
        status = 0;
        return true;
    }

    private boolean denied(int why) {
        status = why;
        return false;
    }

    private int afterStep(boolean done) {
        if (!done) {
            return refuse(STATUS_CANNOT);
        }
        hands[marks].endStep(here());
        return answer(hands[marks].stands);
    }

    /** Both numbers are small and not below 0, the lower one is above 0. */
    private void tellFraction(int upper, int lower) {
        int divisor = lower;
        int rest = upper;
        for (int i = 0; i < 64 && rest != 0; i++) {
            int left = divisor % rest;
            divisor = rest;
            rest = left;
        }
        if (divisor > 0) {
            top = upper / divisor;
            bottom = lower / divisor;
        }
    }

    private static final class Trays {
        private static final int COUNT = 4;
        private static final int SORTS = 4;
        private static final int LONGEST = 60;

        private final long[][] rows = new long[COUNT][LONGEST];
        private final int[] sorts = new int[COUNT];
        /** NONE for a TRAY that is MISSING. */
        private final int[] lengths = {NONE, NONE, NONE, NONE};

        boolean isTray(int tray) {
            return tray >= 0 && tray < COUNT;
        }

        boolean isSort(int sort) {
            return sort >= 0 && sort < SORTS;
        }

        boolean isThere(int tray) {
            return lengths[tray] != NONE;
        }

        boolean areAlike(int one, int other) {
            return sorts[one] == sorts[other];
        }

        boolean hasRun(int tray, int place, int many) {
            return place <= lengths[tray] && many <= lengths[tray] - place;
        }

        void lay(int tray, int sort, int many) {
            sorts[tray] = sort;
            lengths[tray] = many;
            Arrays.fill(rows[tray], 0L);
        }

        int whyNot(int tray, int place) {
            if (!isTray(tray)) {
                return STATUS_NUMBER;
            }
            if (!isThere(tray)) {
                return STATUS_MISSING;
            }
            return place < 0 || place >= lengths[tray] ? STATUS_PLACE : 0;
        }

        void put(int tray, int place, long v) {
            switch (sorts[tray]) {
                case 0:
                    rows[tray][place] = (byte) v;
                    break;
                case 1:
                    rows[tray][place] = (short) v;
                    break;
                case 2:
                    rows[tray][place] = (int) v;
                    break;
                default:
                    rows[tray][place] = v;
                    break;
            }
        }

        long numberAt(int tray, int place) {
            return rows[tray][place];
        }

        void carry(int from, int place, int to, int at, int many) {
            System.arraycopy(rows[from], place, rows[to], at, many);
        }
    }

    /** The tape, and the TOKENS of a text on it: all are cut first, then a reader goes along them. */
    private static final class Text {
        private static final int BYTES_A_FEED = 20;
        private static final int LONGEST_NAME = 8;
        private static final int MOST_DIGITS = 4;

        private final int[] tape = new int[MOST_TAPE];
        private int taped;
        private final long[] reserved = new long[WORD_COUNT];
        private final int[] tokens = new int[MOST_TAPE + 1];
        private final int[] starts = new int[MOST_TAPE + 1];
        /** Of a NUMBER itself; of a WORD its letters as one number, so that WORDS are compared at once. */
        private final long[] values = new long[MOST_TAPE + 1];
        private int end;
        private int at;
        /** Which TOKEN the reader stands at, and what it is. */
        private int place;
        private int token;
        private int fault = NONE;
        private int faultPlace = NONE;

        Text() {
            int word = 0;
            long code = 0;
            for (int i = 0; i < WORDS.length() && word < WORD_COUNT; i++) {
                char c = WORDS.charAt(i);
                if (c == ' ') {
                    reserved[word] = code;
                    word++;
                    code = 0;
                } else {
                    code = withLetter(code, c);
                }
            }
        }

        private static long withLetter(long code, int letter) {
            return code * 32 + (letter - 'a' + 1);
        }

        boolean hasRoom() {
            return taped <= MOST_TAPE - BYTES_A_FEED;
        }

        void append(int four) {
            for (int shift = 24; shift >= 0 && taped < MOST_TAPE; shift -= 8) {
                tape[taped] = four >>> shift & 255;
                taped++;
            }
        }

        void emptyTape() {
            taped = 0;
        }

        /** A reading begins without a FAULT, at the text's first TOKEN. */
        void begin(int length) {
            end = Math.min(length, taped);
            at = 0;
            fault = 0;
            faultPlace = NONE;
            boolean more = true;
            for (int i = 0; i <= MOST_TAPE && more; i++) {
                skipBlanks();
                starts[i] = at;
                tokens[i] = cutToken(i);
                more = tokens[i] != TEXT_END;
            }
            place = 0;
            token = tokens[0];
        }

        private void skipBlanks() {
            for (int i = at; i < end && (tape[i] == 10 || tape[i] == 32); i++) {
                at = i + 1;
            }
        }

        private int cutToken(int i) {
            if (at >= end) {
                return TEXT_END;
            }
            if (isLetter(tape[at])) {
                return cutWord(i);
            }
            if (isDigit(tape[at])) {
                return cutNumber(i);
            }
            at++;
            return tape[at - 1] == ';' ? SIGN : NO_TOKEN;
        }

        private static boolean isLetter(int c) {
            return c >= 'a' && c <= 'z';
        }

        private static boolean isDigit(int c) {
            return c >= '0' && c <= '9';
        }

        private int cutWord(int i) {
            long letters = 0;
            for (int k = at; k < end && isLetter(tape[k]); k++) {
                letters = withLetter(letters, tape[k]);
                at = k + 1;
            }
            values[i] = letters;
            if (at - starts[i] > LONGEST_NAME) {
                return LONG_WORD;
            }
            for (int word = 0; word < WORD_COUNT; word++) {
                if (reserved[word] == letters) {
                    return word;
                }
            }
            return NAME;
        }

        private int cutNumber(int i) {
            long number = 0;
            for (int k = at; k < end && isDigit(tape[k]); k++) {
                number = number * 10 + (tape[k] - '0');
                at = k + 1;
            }
            values[i] = number;
            return at - starts[i] > MOST_DIGITS ? NO_TOKEN : NUMBER;
        }

        /** The text's end is met again and again. */
        void advance() {
            if (token != TEXT_END && place < MOST_TAPE) {
                place++;
                token = tokens[place];
            }
        }

        long value() {
            return values[place];
        }

        /** False, so that a reader can give it back as its own answer. */
        boolean blame(int kind) {
            fault = kind;
            faultPlace = starts[place];
            return false;
        }

        boolean misplaced() {
            return blame(token == NO_TOKEN ? FAULT_TOKEN : FAULT_PLACE);
        }

        boolean takeToken(int wanted) {
            if (token != wanted) {
                return misplaced();
            }
            advance();
            return true;
        }

        /** NONE with a FAULT. */
        int takeNumber(int least, int most) {
            if (token != NUMBER) {
                misplaced();
                return NONE;
            }
            long number = values[place];
            if (number < least || number > most) {
                blame(FAULT_NUMBER);
                return NONE;
            }
            advance();
            return (int) number;
        }
    }

    /** Which sets stand in a kitchen's POTS: a rule for each size that can be short. */
    private static final class Room {
        private final int[] masks = new int[BIGGEST_POT];
        private final int[] limits = new int[BIGGEST_POT];
        private int rules;

        void copyFrom(Room other) {
            System.arraycopy(other.masks, 0, masks, 0, BIGGEST_POT);
            System.arraycopy(other.limits, 0, limits, 0, BIGGEST_POT);
            rules = other.rules;
        }

        /** The menu's POTS, and one more of a size (0: none). */
        void usePots(Menu menu, int extra) {
            rules = 0;
            for (int size = 1; size <= BIGGEST_POT; size++) {
                int pots = extra >= size ? 1 : 0;
                for (int k = 0; k < menu.potCount; k++) {
                    pots += menu.pots[k] >= size ? 1 : 0;
                }
                addRule(menu.dishesFrom(size), pots);
            }
        }

        void useBigPots(Menu menu, int pots) {
            rules = 0;
            addRule(menu.allDishes(), pots);
        }

        /** Rules come with fewer and fewer POTS, so of two for the same DISHES the later one binds. */
        private void addRule(int mask, int limit) {
            if (Integer.bitCount(mask) <= limit) {
                return;
            }
            if (rules > 0 && masks[rules - 1] == mask) {
                limits[rules - 1] = limit;
            } else if (rules < BIGGEST_POT) {
                masks[rules] = mask;
                limits[rules] = limit;
                rules++;
            }
        }

        boolean holds(int set) {
            for (int i = 0; i < rules; i++) {
                if (Integer.bitCount(set & masks[i]) > limits[i]) {
                    return false;
                }
            }
            return true;
        }
    }

    private static final class Menu {
        /** Another number for each MENU taken: what was searched for one MENU holds for it alone. */
        private int stamp;
        private int count;
        private int potCount;
        private int poured;
        private int once;
        private final long[] names = new long[MOST_DISHES];
        private final int[] work = new int[MOST_DISHES];
        private final int[] size = new int[MOST_DISHES];
        private final int[] keptFor = new int[MOST_DISHES];
        private final int[] burns = new int[MOST_DISHES];
        private final int[] needs = new int[MOST_DISHES];
        private final int[] partner = new int[MOST_DISHES];
        private final int[] pots = new int[MOST_POTS];
        /** Of a DISH with its partner: both as a set, what they NEED, the WORK to MAKE them. */
        private final int[] group = new int[MOST_DISHES];
        private final int[] groupNeeds = new int[MOST_DISHES];
        private final int[] groupWork = new int[MOST_DISHES];
        private final Room room = new Room();

        void clear() {
            count = 0;
            potCount = 0;
            poured = 0;
            once = 0;
        }

        void copyFrom(Menu other) {
            stamp = other.stamp;
            count = other.count;
            potCount = other.potCount;
            poured = other.poured;
            once = other.once;
            System.arraycopy(other.names, 0, names, 0, MOST_DISHES);
            System.arraycopy(other.work, 0, work, 0, MOST_DISHES);
            System.arraycopy(other.size, 0, size, 0, MOST_DISHES);
            System.arraycopy(other.keptFor, 0, keptFor, 0, MOST_DISHES);
            System.arraycopy(other.burns, 0, burns, 0, MOST_DISHES);
            System.arraycopy(other.needs, 0, needs, 0, MOST_DISHES);
            System.arraycopy(other.partner, 0, partner, 0, MOST_DISHES);
            System.arraycopy(other.pots, 0, pots, 0, MOST_POTS);
            System.arraycopy(other.group, 0, group, 0, MOST_DISHES);
            System.arraycopy(other.groupNeeds, 0, groupNeeds, 0, MOST_DISHES);
            System.arraycopy(other.groupWork, 0, groupWork, 0, MOST_DISHES);
            room.copyFrom(other.room);
        }

        /** Puts down what follows from a MENU that has been read to its end. */
        void derive(int newStamp) {
            stamp = newStamp;
            for (int d = 0; d < count; d++) {
                int other = partner[d] == NONE ? d : partner[d];
                group[d] = 1 << d | 1 << other;
                groupNeeds[d] = needs[d] | needs[other];
                groupWork[d] = Math.max(work[d], work[other]);
            }
            room.usePots(this, 0);
        }

        boolean has(int dish) {
            return dish >= 0 && dish < count;
        }

        boolean hasSet(int set) {
            return set >= 0 && set < 1 << count;
        }

        int allDishes() {
            return (1 << count) - 1;
        }

        int dishesFrom(int least) {
            int set = 0;
            for (int d = 0; d < count; d++) {
                set |= size[d] >= least ? 1 << d : 0;
            }
            return set;
        }

        int dishNamed(long name) {
            for (int d = 0; d < count; d++) {
                if (names[d] == name) {
                    return d;
                }
            }
            return NONE;
        }

        boolean isPoured(int dish) {
            return (poured & 1 << dish) != 0;
        }

        boolean isAlone(int dish) {
            return partner[dish] == NONE;
        }

        /** The lesser of a PAIR stands for both where a way to MAKE them is told once. */
        boolean leadsGroup(int dish) {
            return partner[dish] == NONE || partner[dish] > dish;
        }

        int goneWith(int dish) {
            return groupNeeds[dish] & once;
        }

        int tellDish(int dish, int what) {
            switch (what) {
                case 0:
                    return work[dish];
                case 1:
                    return size[dish];
                case 2:
                    return keptFor[dish];
                case 3:
                    return burns[dish];
                case 4:
                    return needs[dish];
                case 5:
                    return poured >> dish & 1;
                case 6:
                    return once >> dish & 1;
                case 7:
                    return partner[dish];
                default:
                    return layerOf(dish);
            }
        }

        /** A DISH NEEDS only lesser numbers, so one way upwards meets all LAYERS below it first. */
        private int layerOf(int dish) {
            int[] layers = new int[MOST_DISHES];
            for (int d = 0; d <= dish; d++) {
                for (int e = 0; e < d; e++) {
                    if ((needs[d] & 1 << e) != 0) {
                        layers[d] = Math.max(layers[d], layers[e] + 1);
                    }
                }
            }
            return layers[dish];
        }

        /** What a DISH NEEDS, and what that NEEDS ..; partners are not asked here. */
        int deepNeeds(int dish) {
            int set = needs[dish];
            for (int d = dish - 1; d >= 0; d--) {
                if ((set & 1 << d) != 0) {
                    set |= needs[d];
                }
            }
            return set;
        }

        int allNeeded(int set) {
            int all = set;
            int before = NONE;
            for (int turn = 0; turn <= MOST_DISHES && all != before; turn++) {
                before = all;
                for (int d = count - 1; d >= 0; d--) {
                    if ((all & 1 << d) != 0) {
                        all |= group[d] | groupNeeds[d];
                    }
                }
            }
            return all;
        }

        int workOnce(int goal) {
            int scope = allNeeded(goal);
            int sum = 0;
            for (int d = 0; d < count; d++) {
                if ((scope & 1 << d) != 0 && leadsGroup(d)) {
                    sum += groupWork[d];
                }
            }
            return sum;
        }

        int leastBound(int goal) {
            int scope = allNeeded(goal);
            int most = Integer.bitCount(goal);
            for (int d = 0; d < count; d++) {
                if ((scope & 1 << d) != 0) {
                    most = Math.max(most, ownBound(d));
                }
            }
            return most;
        }

        private int ownBound(int dish) {
            return Integer.bitCount(needs[dish]) + (isPoured(dish) ? 0 : 1);
        }

        int treeNumber(int dish) {
            int scope = allNeeded(1 << dish);
            if (!isTree(scope)) {
                return NONE;
            }
            int[] numbers = new int[MOST_DISHES];
            for (int d = 0; d <= dish; d++) {
                if ((scope & 1 << d) != 0) {
                    numbers[d] = numberAbove(d, numbers);
                }
            }
            return numbers[dish];
        }

        private boolean isTree(int scope) {
            int used = 0;
            for (int d = 0; d < count; d++) {
                if ((scope & 1 << d) != 0) {
                    if (!isAlone(d) || (used & needs[d]) != 0) {
                        return false;
                    }
                    used |= needs[d];
                }
            }
            return (scope & once) == 0;
        }

        private int numberAbove(int dish, int[] numbers) {
            int most = ownBound(dish);
            int rest = needs[dish];
            for (int behind = 0; behind < MOST_DISHES && rest != 0; behind++) {
                int greatest = greatestOf(rest, numbers);
                most = Math.max(most, numbers[greatest] + behind);
                rest &= ~(1 << greatest);
            }
            return most;
        }

        private static int greatestOf(int set, int[] numbers) {
            int greatest = Integer.numberOfTrailingZeros(set) % MOST_DISHES;
            for (int d = greatest; d < MOST_DISHES; d++) {
                if ((set & 1 << d) != 0 && numbers[d] > numbers[greatest]) {
                    greatest = d;
                }
            }
            return greatest;
        }
    }

    private static final class MenuReader {
        private final Text text;
        private final Menu draft = new Menu();
        private int taken;

        MenuReader(Text text) {
            this.text = text;
        }

        /** The MENU stands in draft, if it could be taken. */
        boolean readMenu(int length) {
            draft.clear();
            text.begin(length);
            for (int part = 0; part <= MOST_TAPE && text.token != TEXT_END; part++) {
                boolean good;
                switch (text.token) {
                    case DISH:
                        good = readDish();
                        break;
                    case PAIR:
                        good = readPair();
                        break;
                    case POTS:
                        good = readPots();
                        break;
                    default:
                        good = text.misplaced();
                        break;
                }
                if (!good) {
                    return false;
                }
            }
            taken++;
            draft.derive(taken);
            return true;
        }

        private boolean readDish() {
            if (draft.count >= MOST_DISHES) {
                return text.blame(FAULT_TOO_MANY);
            }
            text.advance();
            int d = draft.count;
            if (!readNewName(d) || !readAmounts(d) || !readNeeds(d) || !readKinds(d)
                    || !text.takeToken(SIGN)) {
                return false;
            }
            draft.partner[d] = NONE;
            draft.count++;
            return true;
        }

        private boolean readNewName(int d) {
            if (text.token != NAME) {
                return text.misplaced();
            }
            if (draft.dishNamed(text.value()) != NONE) {
                return text.blame(FAULT_NAME);
            }
            draft.names[d] = text.value();
            text.advance();
            return true;
        }

        private boolean readAmounts(int d) {
            if (!text.takeToken(WORK)) {
                return false;
            }
            draft.work[d] = text.takeNumber(0, BIGGEST_WORK);
            if (draft.work[d] == NONE) {
                return false;
            }
            draft.size[d] = readAmount(SIZE, 1, BIGGEST_POT, 1);
            if (draft.size[d] == NONE) {
                return false;
            }
            draft.keptFor[d] = readAmount(KEEPS, 1, LONGEST_KEPT, 0);
            if (draft.keptFor[d] == NONE) {
                return false;
            }
            draft.burns[d] = readAmount(BURNS, 0, MOST_BURNS, 0);
            return draft.burns[d] != NONE;
        }

        private int readAmount(int word, int least, int most, int without) {
            if (text.token != word) {
                return without;
            }
            text.advance();
            return text.takeNumber(least, most);
        }

        private boolean readNeeds(int d) {
            draft.needs[d] = 0;
            if (text.token != FROM) {
                return true;
            }
            text.advance();
            if (text.token != NAME) {
                return text.misplaced();
            }
            for (int i = 0; i <= MOST_DISHES && text.token == NAME; i++) {
                int need = draft.dishNamed(text.value());
                if (need == NONE) {
                    return text.blame(FAULT_NAME);
                }
                if ((draft.needs[d] & 1 << need) != 0) {
                    return text.blame(FAULT_AGAIN);
                }
                draft.needs[d] |= 1 << need;
                text.advance();
            }
            return true;
        }

        private boolean readKinds(int d) {
            if (text.token == POURED) {
                if (draft.needs[d] == 0) {
                    return text.blame(FAULT_FORM);
                }
                draft.poured |= 1 << d;
                text.advance();
            }
            if (text.token == ONCE) {
                draft.once |= 1 << d;
                text.advance();
            }
            return true;
        }

        private boolean readPair() {
            text.advance();
            int one = readPartner(NONE);
            if (one == NONE) {
                return false;
            }
            int other = readPartner(one);
            if (other == NONE || !text.takeToken(SIGN)) {
                return false;
            }
            draft.partner[one] = other;
            draft.partner[other] = one;
            return true;
        }

        /** NONE with a FAULT. */
        private int readPartner(int one) {
            if (text.token != NAME) {
                text.misplaced();
                return NONE;
            }
            int dish = draft.dishNamed(text.value());
            if (dish == NONE) {
                text.blame(FAULT_NAME);
                return NONE;
            }
            if (!draft.isAlone(dish) || one != NONE && !canPair(one, dish)) {
                text.blame(FAULT_AGAIN);
                return NONE;
            }
            text.advance();
            return dish;
        }

        private boolean canPair(int one, int other) {
            return one != other && (draft.deepNeeds(one) & 1 << other) == 0
                    && (draft.deepNeeds(other) & 1 << one) == 0;
        }

        private boolean readPots() {
            if (draft.potCount > 0) {
                return text.blame(FAULT_AGAIN);
            }
            text.advance();
            if (text.token != NUMBER) {
                return text.misplaced();
            }
            for (int i = 0; i <= MOST_POTS && text.token == NUMBER; i++) {
                if (draft.potCount >= MOST_POTS && text.value() >= 1 && text.value() <= BIGGEST_POT) {
                    return text.blame(FAULT_TOO_MANY);
                }
                int size = text.takeNumber(1, BIGGEST_POT);
                if (size == NONE) {
                    return false;
                }
                draft.pots[draft.potCount] = size;
                draft.potCount++;
            }
            return text.takeToken(SIGN);
        }
    }

    /** What STANDS, with what was done for it: by hand, or by a PLAN that is COOKED. */
    private static final class Hand {
        private int stands;
        private int trusted;
        private final int[] since = new int[MOST_DISHES];
        private int work;
        private int steps;
        private int missed;
        private int firstMissed;
        private int most;
        private int burnt;
        private int spoilt;
        private boolean burning;
        private int draw;

        void clear() {
            stands = 0;
            trusted = 0;
            work = 0;
            steps = 0;
            missed = 0;
            firstMissed = NONE;
            most = 0;
            burnt = 0;
            spoilt = 0;
            burning = false;
            draw = 0;
        }

        /** A MARK keeps what is done by hand: the counts of a PLAN are none of it. */
        void copyFrom(Hand other) {
            clear();
            stands = other.stands;
            trusted = other.trusted;
            work = other.work;
            steps = other.steps;
            System.arraycopy(other.since, 0, since, 0, MOST_DISHES);
        }

        void beginCooking(int seed) {
            clear();
            burning = seed != NONE;
            draw = seed;
        }

        int madeOnes() {
            return stands & ~trusted;
        }

        boolean doMake(Menu menu, int dish) {
            int group = menu.group[dish];
            boolean can = (stands & group) == 0 && (menu.groupNeeds[dish] & ~stands) == 0
                    && menu.room.holds(stands | group);
            if (!can) {
                return false;
            }
            work += menu.groupWork[dish];
            leave(menu.goneWith(dish));
            int lesser = menu.leadsGroup(dish) ? dish : menu.partner[dish];
            arrive(menu, lesser);
            if (!menu.isAlone(lesser)) {
                arrive(menu, menu.partner[lesser]);
            }
            return true;
        }

        boolean doPour(Menu menu, int dish, int over) {
            int bit = 1 << dish;
            int overBit = 1 << over;
            boolean can = menu.isPoured(dish) && menu.isAlone(dish) && (stands & bit) == 0
                    && (menu.needs[dish] & ~stands) == 0 && (menu.needs[dish] & madeOnes() & overBit) != 0
                    && menu.room.holds(stands & ~overBit | bit);
            if (!can) {
                return false;
            }
            work += menu.work[dish];
            leave(menu.goneWith(dish) | overBit);
            arrive(menu, dish);
            return true;
        }

        boolean doWash(int dish) {
            if ((madeOnes() & 1 << dish) == 0) {
                return false;
            }
            leave(1 << dish);
            return true;
        }

        boolean doTrust(Menu menu, int dish) {
            int bit = 1 << dish;
            if ((stands & bit) != 0 || !menu.room.holds(stands | bit)) {
                return false;
            }
            stands |= bit;
            trusted |= bit;
            return true;
        }

        boolean doShow(Menu menu, int dish) {
            if ((trusted & 1 << dish) == 0 || (menu.needs[dish] & ~stands) != 0) {
                return false;
            }
            leave(1 << dish);
            return true;
        }

        private void leave(int set) {
            stands &= ~set;
            trusted &= ~set;
        }

        private void arrive(Menu menu, int dish) {
            if (burning && menu.burns[dish] > 0 && nextDraw() < menu.burns[dish]) {
                burnt++;
                return;
            }
            stands |= 1 << dish;
            since[dish] = steps + 1;
        }

        private int nextDraw() {
            draw = (draw * 2903 + 8819) % 65536;
            return draw / 8 % 16;
        }

        void endStep(Menu menu) {
            steps++;
            for (int d = 0; d < menu.count; d++) {
                boolean ages = (madeOnes() & 1 << d) != 0 && menu.keptFor[d] > 0;
                if (ages && steps - since[d] >= menu.keptFor[d]) {
                    leave(1 << d);
                    spoilt++;
                }
            }
            most = Math.max(most, Integer.bitCount(stands));
        }

        void countMissed(int step) {
            missed++;
            if (firstMissed == NONE) {
                firstMissed = step;
            }
        }

        int stepsLeft(Menu menu, int dish) {
            boolean forEver = menu.keptFor[dish] == 0 || (trusted & 1 << dish) != 0;
            return forEver ? 0 : menu.keptFor[dish] - (steps - since[dish]);
        }

        int tellCooked(int what) {
            switch (what) {
                case 0:
                    return work;
                case 1:
                    return steps;
                case 2:
                    return missed;
                case 3:
                    return most;
                case 4:
                    return trusted;
                case 5:
                    return burnt;
                default:
                    return spoilt;
            }
        }
    }

    /** The STEPS of a PLAN; those of a when or loop at i stand between i and after[i]. */
    private static final class Plan {
        private static final int MOST_STEPS = 30;
        private static final int DEEPEST = 3;
        private static final int MOST_LOOPS = 99;
        private static final int MOST_DONE = 300;
        private static final int MOST_MET = 900;

        private boolean there;
        private int count;
        private final int[] word = new int[MOST_STEPS];
        private final int[] first = new int[MOST_STEPS];
        private final int[] second = new int[MOST_STEPS];
        private final int[] after = new int[MOST_STEPS];
        /** While it is COOKED: the whens and loops that are open, how often each is still to be done. */
        private final int[] open = new int[DEEPEST];
        private final int[] left = new int[DEEPEST];
        private int depth;
        private int next;

        void clear() {
            there = false;
            count = 0;
        }

        void copyFrom(Plan other) {
            there = other.there;
            count = other.count;
            System.arraycopy(other.word, 0, word, 0, MOST_STEPS);
            System.arraycopy(other.first, 0, first, 0, MOST_STEPS);
            System.arraycopy(other.second, 0, second, 0, MOST_STEPS);
            System.arraycopy(other.after, 0, after, 0, MOST_STEPS);
        }

        /** Its place among the STEPS, from 0 on. */
        int addStep(int stepWord, int one, int other) {
            int step = Math.min(count, MOST_STEPS - 1);
            word[step] = stepWord;
            first[step] = one;
            second[step] = other;
            after[step] = step + 1;
            count = step + 1;
            return step;
        }

        void runWith(Menu menu, Hand hand, int seed) {
            hand.beginCooking(seed);
            depth = 0;
            next = 0;
            int met = 0;
            for (int turn = 0; turn < MANY_TURNS; turn++) {
                if (atEndOfOpen()) {
                    closeOrRepeat();
                    continue;
                }
                if (next >= count || met >= MOST_MET) {
                    return;
                }
                met++;
                if (word[next] == STOP || isDone(word[next]) && hand.steps >= MOST_DONE) {
                    return;
                }
                meet(menu, hand);
            }
        }

        private static boolean isDone(int stepWord) {
            return stepWord != WHEN && stepWord != LOOP;
        }

        private boolean atEndOfOpen() {
            return depth > 0 && next == after[open[depth - 1]];
        }

        private void closeOrRepeat() {
            left[depth - 1]--;
            if (left[depth - 1] > 0) {
                next = open[depth - 1] + 1;
            } else {
                depth--;
            }
        }

        private void meet(Menu menu, Hand hand) {
            if (word[next] == WHEN) {
                enter(testHolds(hand) ? 1 : 0);
            } else if (word[next] == LOOP) {
                enter(first[next]);
            } else {
                if (!attempt(menu, hand)) {
                    hand.countMissed(next);
                }
                hand.endStep(menu);
                next++;
            }
        }

        /** What is empty within is passed by: it would turn often without a STEP that counts. */
        private void enter(int times) {
            if (times <= 0 || after[next] == next + 1 || depth >= DEEPEST) {
                next = after[next];
                return;
            }
            open[depth] = next;
            left[depth] = times;
            depth++;
            next++;
        }

        private boolean testHolds(Hand hand) {
            switch (second[next]) {
                case STANDS:
                    return (hand.stands & 1 << first[next]) != 0;
                case TRUSTED:
                    return (hand.trusted & 1 << first[next]) != 0;
                default:
                    return Integer.bitCount(hand.stands) >= first[next];
            }
        }

        private boolean attempt(Menu menu, Hand hand) {
            int dish = first[next];
            switch (word[next]) {
                case MAKE:
                    return hand.doMake(menu, dish);
                case POUR:
                    return hand.doPour(menu, dish, second[next]);
                case WASH:
                    return hand.doWash(dish);
                case TRUST:
                    return hand.doTrust(menu, dish);
                default:
                    return hand.doShow(menu, dish);
            }
        }
    }

    private static final class PlanReader {
        private final Text text;
        private final Plan draft = new Plan();
        private final int[] open = new int[Plan.DEEPEST];
        private int depth;

        PlanReader(Text text) {
            this.text = text;
        }

        /** The PLAN stands in draft, if it could be taken. */
        boolean readPlan(Menu menu, int length) {
            draft.clear();
            depth = 0;
            text.begin(length);
            for (int turn = 0; turn <= MOST_TAPE && text.token != TEXT_END; turn++) {
                boolean good = text.token == END ? readEnd() : readStep(menu);
                if (!good) {
                    return false;
                }
            }
            draft.there = true;
            return depth == 0 || text.misplaced();
        }

        private boolean readEnd() {
            if (depth <= 0) {
                return text.misplaced();
            }
            depth--;
            draft.after[open[depth]] = draft.count;
            text.advance();
            return text.takeToken(SIGN);
        }

        private boolean readStep(Menu menu) {
            int word = text.token;
            boolean opens = word == WHEN || word == LOOP;
            if (!opens && !isPlainStep(word)) {
                return text.misplaced();
            }
            if (draft.count >= Plan.MOST_STEPS) {
                return text.blame(FAULT_TOO_MANY);
            }
            if (opens && depth >= Plan.DEEPEST) {
                return text.blame(FAULT_FORM);
            }
            text.advance();
            int step = draft.addStep(word, NONE, NONE);
            if (opens) {
                open[depth] = step;
                depth++;
            }
            return readRest(menu, step) && text.takeToken(SIGN);
        }

        private static boolean isPlainStep(int word) {
            return word == MAKE || word == POUR || word == WASH || word == TRUST || word == SHOW
                    || word == STOP;
        }

        private boolean readRest(Menu menu, int step) {
            switch (draft.word[step]) {
                case STOP:
                    return true;
                case LOOP:
                    draft.first[step] = text.takeNumber(1, Plan.MOST_LOOPS);
                    return draft.first[step] != NONE;
                case WHEN:
                    return readTest(menu, step);
                case POUR:
                    draft.first[step] = readDish(menu);
                    if (draft.first[step] == NONE || !text.takeToken(OVER)) {
                        return false;
                    }
                    draft.second[step] = readDish(menu);
                    return draft.second[step] != NONE;
                default:
                    draft.first[step] = readDish(menu);
                    return draft.first[step] != NONE;
            }
        }

        private boolean readTest(Menu menu, int step) {
            int test = text.token;
            if (test != STANDS && test != TRUSTED && test != FULL) {
                return text.misplaced();
            }
            text.advance();
            draft.second[step] = test;
            draft.first[step] = test == FULL ? text.takeNumber(0, MOST_DISHES) : readDish(menu);
            return draft.first[step] != NONE;
        }

        /** NONE with a FAULT. */
        private int readDish(Menu menu) {
            if (text.token != NAME) {
                text.misplaced();
                return NONE;
            }
            int dish = menu.dishNamed(text.value());
            if (dish == NONE) {
                text.blame(FAULT_NAME);
                return NONE;
            }
            text.advance();
            return dish;
        }
    }

    /**
     * All sets that can STAND, the cheapest first (Dijkstra's way): by WORK and then STEPS, or by STEPS
     * alone. It goes on only as far as it is asked, and what it knows holds until MENU or POTS change.
     */
    private static final class Least {
        /** A key is WORK times this and STEPS: no set comes twice on a way, so STEPS stay below it. */
        private static final int KEY_STEP = ALL_SETS;
        private static final int FAR = 2147483647;
        private static final int KITCHEN = 100;
        /** Makes, pours (of DISHES that do not STAND over such that do) and washes of one set. */
        private static final int MOST_MOVES = 12 + 36 + 12;
        private static final int MOVE_KIND = MOST_DISHES * MOST_DISHES;

        private final boolean byWork;
        private final Room room = new Room();
        private Menu menu;
        private int stamp = NONE;
        private int potsKind = NONE;
        private int[] key = new int[0];
        private int[] heap = new int[0];
        private int[] place = new int[0];
        private int[] order = new int[0];
        private boolean[] onPath = new boolean[0];
        private int waiting;
        private int settled;
        private final int[] moveTo = new int[MOST_MOVES];
        private final int[] movePrice = new int[MOST_MOVES];
        private final int[] moveCode = new int[MOST_MOVES];
        private int moves;
        private int[] path = new int[0];
        private int pathLength;

        Least(boolean byWork) {
            this.byWork = byWork;
        }

        void useKitchen(Menu asked, int extra) {
            if (isOther(asked, KITCHEN + extra)) {
                room.usePots(asked, extra);
                restart();
            }
        }

        void useBigPots(Menu asked, int pots) {
            if (isOther(asked, pots)) {
                room.useBigPots(asked, pots);
                restart();
            }
        }

        private boolean isOther(Menu asked, int kind) {
            boolean other = stamp != asked.stamp || potsKind != kind;
            menu = asked;
            stamp = asked.stamp;
            potsKind = kind;
            return other;
        }

        private void restart() {
            int sets = 1 << menu.count;
            if (key.length < sets) {
                key = new int[sets];
                heap = new int[sets];
                place = new int[sets];
                order = new int[sets];
                onPath = new boolean[sets];
            }
            Arrays.fill(key, FAR);
            waiting = 0;
            settled = 0;
            offer(0, 0);
        }

        int seekWork(int goal) {
            int least = seekKey(goal);
            return least == NONE ? NONE : least / KEY_STEP;
        }

        /** The first set in order that has the GOAL in it is as cheap as any. */
        int seekKey(int goal) {
            for (int i = 0; i < order.length; i++) {
                if (i >= settled && !settleNext()) {
                    return NONE;
                }
                if ((order[i] & goal) == goal) {
                    return key[order[i]];
                }
            }
            return NONE;
        }

        private boolean settleNext() {
            if (waiting <= 0 || settled >= order.length) {
                return false;
            }
            int set = heap[0];
            waiting--;
            if (waiting > 0) {
                heap[0] = heap[waiting];
                place[heap[0]] = 0;
                sink();
            }
            order[settled] = set;
            settled++;
            listMoves(set);
            for (int i = 0; i < moves; i++) {
                offer(moveTo[i], key[set] + movePrice[i]);
            }
            return true;
        }

        private void offer(int set, int price) {
            if (price >= key[set]) {
                return;
            }
            if (key[set] == FAR) {
                place[set] = waiting;
                waiting++;
            }
            key[set] = price;
            rise(set);
        }

        private void rise(int set) {
            int at = place[set];
            for (int turn = 0; turn < ALL_SETS && at > 0; turn++) {
                int above = (at - 1) / 2;
                if (key[heap[above]] <= key[set]) {
                    break;
                }
                heap[at] = heap[above];
                place[heap[at]] = at;
                at = above;
            }
            heap[at] = set;
            place[set] = at;
        }

        private void sink() {
            int set = heap[0];
            int at = 0;
            for (int turn = 0; turn < ALL_SETS && at * 2 + 1 < waiting; turn++) {
                int below = at * 2 + 1;
                if (below + 1 < waiting && key[heap[below + 1]] < key[heap[below]]) {
                    below++;
                }
                if (key[heap[below]] >= key[set]) {
                    break;
                }
                heap[at] = heap[below];
                place[heap[at]] = at;
                at = below;
            }
            heap[at] = set;
            place[set] = at;
        }

        /** In the order in which the document tells which STEP comes first. */
        private void listMoves(int set) {
            moves = 0;
            for (int d = 0; d < menu.count; d++) {
                listMake(set, d);
            }
            for (int d = 0; d < menu.count; d++) {
                listPours(set, d);
            }
            for (int d = 0; d < menu.count; d++) {
                if ((set & 1 << d) != 0) {
                    addMove(set & ~(1 << d), 1, 2 * MOVE_KIND + d * MOST_DISHES);
                }
            }
        }

        private void listMake(int set, int dish) {
            int with = set | menu.group[dish];
            boolean can = (set & menu.group[dish]) == 0 && (menu.groupNeeds[dish] & ~set) == 0
                    && menu.leadsGroup(dish) && room.holds(with);
            if (can) {
                addMove(with & ~menu.goneWith(dish), priceOf(dish), dish * MOST_DISHES);
            }
        }

        private void listPours(int set, int dish) {
            int bit = 1 << dish;
            boolean can = menu.isPoured(dish) && (set & bit) == 0 && (menu.needs[dish] & ~set) == 0
                    && menu.isAlone(dish);
            for (int over = 0; over < dish && can; over++) {
                if ((menu.needs[dish] & 1 << over) != 0) {
                    int with = set & ~(1 << over) | bit;
                    if (room.holds(with)) {
                        int code = MOVE_KIND + dish * MOST_DISHES + over;
                        addMove(with & ~menu.goneWith(dish), priceOf(dish), code);
                    }
                }
            }
        }

        private int priceOf(int dish) {
            return byWork ? menu.groupWork[dish] * KEY_STEP + 1 : 1;
        }

        private void addMove(int to, int price, int code) {
            if (moves < MOST_MOVES) {
                moveTo[moves] = to;
                movePrice[moves] = price;
                moveCode[moves] = code;
                moves++;
            }
        }

        /** What 0: MAKE, POUR or WASH, 1: the DISH, 2: over which one. */
        static int tellMove(int code, int what) {
            int kind = code / MOVE_KIND;
            if (what == 0) {
                return kind;
            }
            if (what == 1) {
                return code / MOST_DISHES % MOST_DISHES;
            }
            return kind == 1 ? code % MOST_DISHES : NONE;
        }

        /** How many STEPS; they stand in path until another one is found. */
        int findPath(int goal) {
            int least = seekKey(goal);
            if (least == NONE) {
                return NONE;
            }
            for (int i = 0; i < ALL_SETS && waiting > 0 && key[heap[0]] <= least; i++) {
                settleNext();
            }
            markPaths(goal, least);
            walkPath(least);
            return pathLength;
        }

        /** Backwards along the order: each set's ways on lead to sets that stand behind it. */
        private void markPaths(int goal, int least) {
            for (int i = settled - 1; i >= 0; i--) {
                int set = order[i];
                if (key[set] < least) {
                    onPath[set] = firstOnPath(set, least) != NONE;
                } else {
                    onPath[set] = key[set] == least && (set & goal) == goal;
                }
            }
        }

        /** Of the moves listed, the first along a cheapest way; dearer sets may bear an older call's sign. */
        private int firstOnPath(int set, int least) {
            listMoves(set);
            for (int i = 0; i < moves; i++) {
                int price = key[set] + movePrice[i];
                if (price <= least && key[moveTo[i]] == price && onPath[moveTo[i]]) {
                    return i;
                }
            }
            return NONE;
        }

        private void walkPath(int least) {
            int length = least % KEY_STEP;
            if (path.length < length) {
                // As long as any way in this kitchen, so that longer and longer ones do not make a row each.
                path = new int[key.length];
            }
            pathLength = 0;
            int set = 0;
            for (int i = 0; i < length && i < path.length; i++) {
                int move = firstOnPath(set, least);
                if (move == NONE) {
                    return;
                }
                path[i] = moveCode[move];
                pathLength = i + 1;
                set = moveTo[move];
            }
        }
    }

    /**
     * All that can STAND with ever more POTS of size 9, with TRUST or without. It goes on only as far as
     * it is asked, and what it knows holds until the MENU or the DISHES that may be used change.
     */
    private static final class Fewest {
        private static final int HALF = 64;
        private static final int HALF_DISHES = 6;

        private final boolean trusting;
        private Menu menu;
        private int stamp = NONE;
        private int scope = NONE;
        private int fromPots;
        /** Sets found: what is MADE, and above it what is TRUSTED; and with how many POTS. */
        private int[] order = new int[0];
        private int[] level = new int[0];
        private boolean[] seen = new boolean[0];
        /** What a set's lower and upper half weigh in a number of its own for each state. */
        private final int[] low = new int[HALF];
        private final int[] high = new int[HALF];
        private int states;
        private int found;
        private int next;
        private int pots;

        Fewest(boolean trusting) {
            this.trusting = trusting;
        }

        /** Fewer POTS than least are not tried: no GOAL that is sought then can do with fewer. */
        void use(Menu asked, int dishes, int least) {
            menu = asked;
            if (stamp == asked.stamp && scope == dishes && least >= fromPots) {
                return;
            }
            stamp = asked.stamp;
            scope = dishes;
            fromPots = least;
            weigh();
            if (order.length < states) {
                order = new int[states];
                level = new int[states];
                seen = new boolean[states];
            }
            for (int i = 0; i < states; i++) {
                seen[i] = false;
            }
            found = 0;
            next = 0;
            pots = least;
            add(0, 0);
        }

        /** With TRUST a DISH is away, MADE or TRUSTED: a digit by 3; without it a digit by 2. */
        private void weigh() {
            states = 1;
            for (int d = 0; d < MOST_DISHES; d++) {
                int weight = (scope & 1 << d) != 0 ? states : 0;
                if (d < HALF_DISHES) {
                    weighHalf(low, d, weight);
                } else {
                    weighHalf(high, d - HALF_DISHES, weight);
                }
                if (weight > 0) {
                    states *= trusting ? 3 : 2;
                }
            }
        }

        private static void weighHalf(int[] half, int place, int weight) {
            int bit = 1 << place;
            for (int set = 0; set < bit && bit + set < half.length; set++) {
                half[bit + set] = half[set] + weight;
            }
        }

        private int weightOf(int set) {
            return low[set & HALF - 1] + high[set >> HALF_DISHES & HALF - 1];
        }

        /** The first state in order that has the GOAL, all MADE, came with as few POTS as any. */
        int seekPots(int goal) {
            for (int i = 0; i < states; i++) {
                if (i >= found && !searchOn()) {
                    return NONE;
                }
                if ((order[i] & goal) == goal && order[i] < ALL_SETS) {
                    return level[i];
                }
            }
            return NONE;
        }

        private boolean searchOn() {
            int before = found;
            for (int turn = 0; turn < MANY_TURNS && found == before; turn++) {
                if (next < found) {
                    goOnFrom(next);
                    next++;
                } else if (pots < MOST_DISHES) {
                    pots++;
                    next = 0;
                } else {
                    return false;
                }
            }
            return found > before;
        }

        private void goOnFrom(int i) {
            int made = order[i] % ALL_SETS;
            int trusted = order[i] / ALL_SETS;
            int free = pots - Integer.bitCount(made | trusted);
            // What was known with fewer POTS has new ways only where the last POT is taken.
            if (level[i] < pots && free > 2) {
                return;
            }
            for (int d = 0; d < menu.count; d++) {
                int bit = 1 << d;
                if ((scope & bit) == 0) {
                    continue;
                }
                if ((made & bit) != 0) {
                    add(made & ~bit, trusted);
                } else if ((trusted & bit) != 0) {
                    tryShow(made, trusted, d);
                } else {
                    tryMake(made, trusted, d, free);
                    tryPours(made, trusted, d);
                    tryTrust(made, trusted, d, free);
                }
            }
        }

        private void tryShow(int made, int trusted, int dish) {
            if ((menu.needs[dish] & ~(made | trusted)) == 0) {
                add(made, trusted & ~(1 << dish));
            }
        }

        private void tryMake(int made, int trusted, int dish, int free) {
            int group = menu.group[dish];
            int all = made | trusted;
            if ((menu.groupNeeds[dish] & ~all) == 0 && (group & all) == 0
                    && Integer.bitCount(group) <= free) {
                int gone = menu.goneWith(dish);
                add((made | group) & ~gone, trusted & ~gone);
            }
        }

        private void tryPours(int made, int trusted, int dish) {
            boolean can = menu.isPoured(dish) && (menu.needs[dish] & ~(made | trusted)) == 0
                    && menu.isAlone(dish);
            int gone = menu.goneWith(dish);
            for (int over = 0; over < dish && can; over++) {
                if ((menu.needs[dish] & made & 1 << over) != 0) {
                    add((made & ~(1 << over) | 1 << dish) & ~gone, trusted & ~gone);
                }
            }
        }

        private void tryTrust(int made, int trusted, int dish, int free) {
            if (trusting && free >= 1) {
                add(made, trusted | 1 << dish);
            }
        }

        private void add(int made, int trusted) {
            int state = weightOf(made) + 2 * weightOf(trusted);
            if (seen[state] || found >= states) {
                return;
            }
            seen[state] = true;
            order[found] = trusted * ALL_SETS + made;
            level[found] = pots;
            found++;
        }
    }

    /** What can STAND behind ever more ROUNDS: what is WASHED between them costs nothing. */
    private static final class Rounds {
        private Menu menu;
        private int goal;
        private int scope;
        private int[] order = new int[0];
        private boolean[] seen = new boolean[0];
        private int found;
        private boolean reached;

        /** Other DISHES than those NEEDED only take room: WASHING does as well as their using up. */
        int countRounds(Menu asked, int wanted, int cooks) {
            menu = asked;
            goal = wanted;
            scope = asked.allNeeded(wanted);
            if (!allCanBeMade()) {
                return NONE;
            }
            restart();
            int from = 0;
            for (int round = 0; round <= ALL_SETS; round++) {
                if (reached) {
                    return round;
                }
                washFrom(from);
                int to = found;
                if (from == to) {
                    return NONE;
                }
                for (int i = from; i < to && !reached; i++) {
                    cookMore(order[i], readyAt(order[i]), 0, 0, cooks);
                }
                from = to;
            }
            return NONE;
        }

        /** Each DISH that is NEEDED must be MADE alone, with all that it NEEDS beside it. */
        private boolean allCanBeMade() {
            for (int d = 0; d < menu.count; d++) {
                boolean asked = (scope & 1 << d) != 0;
                if (asked && (!menu.isAlone(d) || !menu.room.holds(menu.needs[d] | 1 << d))) {
                    return false;
                }
            }
            return menu.room.holds(goal);
        }

        private void restart() {
            int sets = 1 << menu.count;
            if (order.length < sets) {
                order = new int[sets];
                seen = new boolean[sets];
            }
            for (int i = 0; i < sets; i++) {
                seen[i] = false;
            }
            found = 0;
            reached = false;
            add(0);
        }

        private void add(int set) {
            if (seen[set] || found >= order.length) {
                return;
            }
            seen[set] = true;
            order[found] = set;
            found++;
            reached |= (set & goal) == goal;
        }

        private void washFrom(int from) {
            for (int i = from; i < order.length && i < found; i++) {
                for (int d = 0; d < menu.count; d++) {
                    if ((order[i] & 1 << d) != 0) {
                        add(order[i] & ~(1 << d));
                    }
                }
            }
        }

        private int readyAt(int set) {
            int ready = 0;
            for (int d = 0; d < menu.count; d++) {
                if ((scope & ~set & 1 << d) != 0 && (menu.needs[d] & ~set) == 0) {
                    ready |= 1 << d;
                }
            }
            return ready;
        }

        /** Goes as deep as there are cooks, at most four. */
        private void cookMore(int set, int ready, int with, int gone, int cooks) {
            int rest = ready;
            for (int d = 0; d < menu.count && rest != 0 && !reached; d++) {
                int bit = 1 << d;
                if ((rest & bit) == 0) {
                    continue;
                }
                rest &= ~bit;
                if (menu.room.holds(set | with | bit)) {
                    int used = gone | menu.goneWith(d);
                    add((set | with | bit) & ~used);
                    if (cooks > 1) {
                        cookMore(set, rest, with | bit, used, cooks - 1);
                    }
                }
            }
        }
    }
}
