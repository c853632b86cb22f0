import java.util.Arrays;

public final class RightKeys {
    public static final int NONE = -1;

    /** What calls answer where the document says -2. */
    private static final int NOTHING = -2;
    private static final int NO_SPARE = -100000;

    private static final int MOST_HOUSES = 8;
    private static final int MOST_SPARES = 6;
    private static final int MOST_BYTES = 2000;
    private static final int MOST_TOKENS = 400;
    private static final int MOST_IFS = 4;
    private static final int MOST_DEEP = 6;
    private static final int MOST_HOURS = 72;
    private static final int MOST_QUARRELS = 99999;
    private static final int MOST_UNDONE = 40;
    private static final int MOST_TOLD = 20;
    private static final int MOST_SEEDS = 20;
    private static final int SLOTS = 3;
    private static final int DAY_HOURS = 24;
    private static final int BYTES_FED = 20;
    /** More than any STAND, and than any number of HOUSES: where the least is sought. */
    private static final int TOO_MUCH = 1000000;

    private static final int SYNTAX = 1;
    private static final int ROOM = 2;
    private static final int TWICE = 3;
    private static final int NAME = 4;
    private static final int WRONG = 5;

    private static final int LETS = 0;
    private static final int QUARREL = 1;
    private static final int RENT = 2;
    private static final int LATE = 3;
    private static final int LAWS = 4;

    private final byte[] tape = new byte[MOST_BYTES];
    private int tapeLength = 0;
    private int faultPlace = NONE;
    private Text text = new Text();
    private Text draft = new Text();
    private final Reader reader = new Reader(draft);
    private final Ring now = new Ring(text);
    private final Ring trial = new Ring(text);
    private final Watch watch = new Watch();
    private final Ring[] past = new Ring[MOST_UNDONE];
    private int pastNext = 0;
    private int pastCount = 0;
    private final Ring[] slots = new Ring[SLOTS];
    private int heldSlots = 0;
    private final int[] toldHouses = new int[MOST_TOLD];
    private int toldStood = 0;
    private int toldCount = 0;
    private final int[] stoodWithout = new int[MOST_HOUSES];

    public RightKeys() {
        for (int i = 0; i < MOST_UNDONE; i++) {
            past[i] = new Ring(text);
        }
        for (int i = 0; i < SLOTS; i++) {
            slots[i] = new Ring(text);
        }
    }

    // ---- the tape and the text

    public int feed(int a, int b, int c, int d, int e) {
        if (tapeLength > MOST_BYTES - BYTES_FED) {
            return NONE;
        }
        putBytes(a);
        putBytes(b);
        putBytes(c);
        putBytes(d);
        putBytes(e);
        return tapeLength;
    }

    private void putBytes(int word) {
        for (int shift = 24; shift >= 0; shift -= 8) {
            if (tapeLength < MOST_BYTES) {
                tape[tapeLength] = (byte) (word >>> shift);
                tapeLength++;
            }
        }
    }

    public int back(int n) {
        if (n < 0 || n > tapeLength) {
            return NONE;
        }
        tapeLength -= n;
        return tapeLength;
    }

    public int read() {
        int fault = reader.readText(tape, tapeLength, draft);
        tapeLength = 0;
        faultPlace = reader.place;
        if (fault == 0) {
            takeDraft();
        }
        return fault;
    }

    private void takeDraft() {
        Text old = text;
        text = draft;
        draft = old;
        now.begin(text);
        pastCount = 0;
        heldSlots = 0;
        toldCount = 0;
        toldStood = 0;
    }

    public int place() {
        return faultPlace;
    }

    // ---- what is

    public int house(int house, int what) {
        if (!isHouse(house)) {
            return NONE;
        }
        switch (what) {
            case 0: return now.go[house];
            case 1: return now.come[house];
            case 2: return now.temper[house];
            case 3: return now.whereIs(house);
            case 4: return now.waited[house];
            case 5: return bit(now.kept, house);
            case 6: return bit(text.both, house);
            case 7: return now.who[house];
            case 8: return bit(now.late, house);
            case 9: return now.rentOf(house);
            default: return NONE;
        }
    }

    public int spare(int spare, int what) {
        if (!isSpare(spare)) {
            return NONE;
        }
        switch (what) {
            case 0: return text.door[spare];
            case 1: return now.box[spare];
            case 2: return now.goal[spare];
            default: return NONE;
        }
    }

    public int lets(int house, int other) {
        if (!isHouse(house) || !isHouse(other) || house == other) {
            return NONE;
        }
        return now.wouldLetIn(house, other) ? 1 : 0;
    }

    public int openers(int house) {
        return isHouse(house) ? now.openersOf(house) : NONE;
    }

    public int by(int house) {
        return isHouse(house) ? now.opener[house] : NONE;
    }

    public int count(int what) {
        switch (what) {
            case 0: return text.houses;
            case 1: return text.spares;
            case 2: return now.hour;
            case 3: return now.hour % DAY_HOURS;
            case 4: return now.in;
            case 5: return allHouses() & ~(now.in | now.outside);
            case 6: return now.outside;
            case 7: return now.quarrels;
            case 8: return now.kept;
            case 9: return tapeLength;
            case 10: return pastCount;
            case 11: return toldCount;
            case 12: return Integer.bitCount(heldSlots);
            case 13: return now.letIns;
            case 14: return now.spareIns;
            case 15: return now.sparesWithGoal();
            case 16: return now.rentOfAll();
            default: return NONE;
        }
    }

    // ---- what is done and undone

    public boolean keep(int house, boolean in) {
        if (!isHouse(house) || (bit(now.kept, house) == 1) == in) {
            return false;
        }
        remember();
        now.kept ^= 1 << house;
        return true;
    }

    public boolean pass(int spare, int house) {
        if (!isSpare(spare) || house != NONE && !isHouse(house)) {
            return false;
        }
        int goal = house == NONE ? NOTHING : house;
        if (now.goal[spare] == goal) {
            return false;
        }
        remember();
        now.goal[spare] = goal;
        return true;
    }

    public boolean change(int house, int other) {
        if (!isHouse(house) || !isHouse(other) || house == other || !now.bothIn(house, other)) {
            return false;
        }
        remember();
        now.swapPeople(house, other);
        return true;
    }

    public int hours(int n) {
        if (n < 0 || n > MOST_HOURS) {
            return NONE;
        }
        if (n > 0) {
            remember();
        }
        for (int i = 0; i < n; i++) {
            now.goThroughHour();
        }
        return now.hour;
    }

    private void remember() {
        past[pastNext].copyFrom(now);
        pastNext = pastNext + 1 < MOST_UNDONE ? pastNext + 1 : 0;
        pastCount = Math.min(pastCount + 1, MOST_UNDONE);
    }

    public boolean undo() {
        if (pastCount == 0) {
            return false;
        }
        pastCount--;
        pastNext = pastNext > 0 ? pastNext - 1 : MOST_UNDONE - 1;
        now.copyFrom(past[pastNext]);
        return true;
    }

    public boolean hold(int slot) {
        if (!isSlot(slot)) {
            return false;
        }
        slots[slot].copyFrom(now);
        heldSlots |= 1 << slot;
        return true;
    }

    public boolean restore(int slot) {
        if (!isSlot(slot) || bit(heldSlots, slot) == 0) {
            return false;
        }
        now.copyFrom(slots[slot]);
        pastCount = 0;
        return true;
    }

    // ---- what would be, nobody being LATE

    public int stand(int house, int n) {
        if (!isSpan(n) || house != NONE && !isHouse(house)) {
            return NONE;
        }
        startTrial();
        watch.follow(trial, n);
        return house == NONE ? watch.all : watch.each[house];
    }

    public int firstStand(int n) {
        if (!isSpan(n)) {
            return NONE;
        }
        startTrial();
        return watch.firstHour(trial, n);
    }

    public int stay(int what) {
        if (!isEither(what)) {
            return NONE;
        }
        int all = allHouses();
        for (int size = 0; size <= text.houses; size++) {
            for (int set = 0; set <= all; set++) {
                if (Integer.bitCount(set) == size && (set & now.kept) == 0) {
                    startTrial();
                    trial.kept |= set;
                    if (watch.firstHour(trial, MOST_HOURS) == NOTHING) {
                        return what == 0 ? size : set;
                    }
                }
            }
        }
        return NOTHING;
    }

    public int shift(int house, int what) {
        if (!isHouse(house) || !isEither(what)) {
            return NONE;
        }
        int best = 0;
        int bestStand = TOO_MUCH;
        int bestWay = DAY_HOURS;
        for (int come = 0; come < DAY_HOURS; come++) {
            startTrial();
            trial.come[house] = come;
            watch.follow(trial, MOST_HOURS);
            int apart = Math.abs(come - now.come[house]);
            int way = Math.min(apart, DAY_HOURS - apart);
            if (watch.all < bestStand || watch.all == bestStand && way < bestWay) {
                best = come;
                bestStand = watch.all;
                bestWay = way;
            }
        }
        return what == 0 ? best : bestStand;
    }

    public int changeBest(int what) {
        if (!isEither(what)) {
            return NONE;
        }
        startTrial();
        watch.follow(trial, MOST_HOURS);
        int least = watch.all;
        int pair = NOTHING;
        for (int house = 0; house < text.houses; house++) {
            for (int other = house + 1; other < text.houses; other++) {
                if (now.bothIn(house, other)) {
                    startTrial();
                    trial.swapPeople(house, other);
                    watch.follow(trial, MOST_HOURS);
                    if (watch.all < least) {
                        least = watch.all;
                        pair = 10 * house + other;
                    }
                }
            }
        }
        return what == 0 || pair == NOTHING ? pair : least;
    }

    public int frees(int house) {
        if (!isHouse(house)) {
            return NONE;
        }
        startTrial();
        trial.bringIn(house);
        int before = trial.letIns;
        trial.letPeopleIn();
        return trial.letIns - before;
    }

    public int worst(int n, int what) {
        if (!isSpan(n) || !isEither(what)) {
            return NONE;
        }
        if (text.houses == 0) {
            return NOTHING;
        }
        startTrial();
        watch.follow(trial, n);
        int worst = 0;
        for (int house = 1; house < text.houses; house++) {
            if (watch.each[house] > watch.each[worst]) {
                worst = house;
            }
        }
        return what == 0 ? worst : watch.each[worst];
    }

    public int peak(int n, int what) {
        if (!isSpan(n) || !isEither(what)) {
            return NONE;
        }
        startTrial();
        watch.follow(trial, n);
        return what == 0 ? watch.peakHour : watch.peak;
    }

    public int gain(int spare) {
        if (!isSpare(spare)) {
            return NO_SPARE;
        }
        startTrial();
        watch.follow(trial, MOST_HOURS);
        int without = watch.all;
        startTrial();
        trial.box[spare] = text.door[spare];
        watch.follow(trial, MOST_HOURS);
        return without - watch.all;
    }

    public int shut(int house) {
        if (!isHouse(house)) {
            return NONE;
        }
        startTrial();
        watch.follow(trial, DAY_HOURS);
        int anyway = watch.ever;
        startTrial();
        trial.sendAway(house);
        watch.follow(trial, DAY_HOURS);
        return watch.ever & ~anyway;
    }

    /** A copy of what is, in which nobody becomes LATE; one who was LATE in the hour ahead still comes. */
    private void startTrial() {
        trial.copyFrom(now);
        trial.punctual = true;
    }

    // ---- the ways of the SPARES

    public int days(int spare, int house) {
        return isSpare(spare) && isHouse(house) ? now.waysOf(spare, house) : NONE;
    }

    public int soonest(int house, int what) {
        if (!isHouse(house) || !isEither(what)) {
            return NONE;
        }
        int best = NOTHING;
        int fewest = NOTHING;
        for (int spare = 0; spare < text.spares; spare++) {
            if (text.door[spare] == house) {
                int ways = now.waysOf(spare, house);
                if (best == NOTHING || ways < fewest) {
                    best = spare;
                    fewest = ways;
                }
            }
        }
        return what == 0 ? best : fewest;
    }

    // ---- what would be behind HOURS, in which people may be LATE

    public int rents(int n) {
        if (!isCount(n)) {
            return NONE;
        }
        tryHours(n, text.seed);
        return trial.rentOfAll();
    }

    public int then(int house, int n, int what) {
        if (!isCount(n) || what < 0 || what > 2 || what < 2 && !isHouse(house)) {
            return NONE;
        }
        tryHours(n, text.seed);
        if (what == 2) {
            return trial.quarrels - now.quarrels;
        }
        return what == 0 ? trial.whereIs(house) : trial.waited[house];
    }

    public int year(int n, int s) {
        if (!isCount(n) || s < 1 || s > MOST_SEEDS) {
            return NONE;
        }
        int calm = 0;
        for (int i = 0; i < s; i++) {
            tryHours(n, text.seed + i);
            if (trial.outside == 0) {
                calm++;
            }
        }
        return calm;
    }

    private void tryHours(int n, int seed) {
        trial.copyFrom(now);
        trial.seed = seed;
        for (int i = 0; i < n; i++) {
            trial.goThroughHour();
        }
    }

    // ---- what is TOLD

    public int tell(int house, boolean stood) {
        if (!isHouse(house) || toldCount >= MOST_TOLD) {
            return NONE;
        }
        int number = toldCount;
        toldHouses[number] = house;
        toldStood = stood ? toldStood | 1 << number : toldStood & ~(1 << number);
        toldCount++;
        return number;
    }

    public int forget() {
        int were = toldCount;
        toldCount = 0;
        return were;
    }

    public int overslept(int k, int what) {
        if (k < 0 || k > toldCount || !isEither(what)) {
            return NONE;
        }
        int left = 0;
        for (int house = 0; house < text.houses; house++) {
            startTrial();
            trial.sendAway(house);
            watch.follow(trial, DAY_HOURS);
            left |= agrees(watch.ever, k) ? 1 << house : 0;
        }
        return what == 0 ? Integer.bitCount(left) : left;
    }

    public int ask(int k) {
        if (k < 0 || k > toldCount) {
            return NONE;
        }
        int left = 0;
        for (int house = 0; house < text.houses; house++) {
            startTrial();
            trial.sendAway(house);
            watch.follow(trial, DAY_HOURS);
            stoodWithout[house] = watch.ever;
            left |= agrees(watch.ever, k) ? 1 << house : 0;
        }
        return left == 0 ? NOTHING : bestToAsk(left);
    }

    private int bestToAsk(int left) {
        int best = 0;
        int fewest = TOO_MUCH;
        int all = Integer.bitCount(left);
        for (int house = 0; house < text.houses; house++) {
            int stood = countStood(left, house);
            int atWorst = Math.max(stood, all - stood);
            if (atWorst < fewest) {
                fewest = atWorst;
                best = house;
            }
        }
        return best;
    }

    private boolean agrees(int stood, int k) {
        for (int i = 0; i < k && i < MOST_TOLD; i++) {
            if (bit(stood, toldHouses[i]) != bit(toldStood, i)) {
                return false;
            }
        }
        return true;
    }

    private int countStood(int left, int asked) {
        int stood = 0;
        for (int house = 0; house < text.houses; house++) {
            if (bit(left, house) == 1) {
                stood += bit(stoodWithout[house], asked);
            }
        }
        return stood;
    }

    // ---- what arguments may be

    private boolean isHouse(int house) {
        return house >= 0 && house < text.houses;
    }

    private boolean isSpare(int spare) {
        return spare >= 0 && spare < text.spares;
    }

    private static boolean isSlot(int slot) {
        return slot >= 0 && slot < SLOTS;
    }

    private static boolean isSpan(int n) {
        return n >= 1 && n <= MOST_HOURS;
    }

    private static boolean isCount(int n) {
        return n >= 0 && n <= MOST_HOURS;
    }

    private static boolean isEither(int what) {
        return what == 0 || what == 1;
    }

    private int allHouses() {
        return (1 << text.houses) - 1;
    }

    private static int bit(int bits, int number) {
        return bits >>> number & 1;
    }

    /** What a text tells: it stays as it is while hours go by. */
    private static final class Text {
        int houses = 0;
        int spares = 0;
        int both = 0;
        int seed = 0;
        final long[] name = new long[MOST_HOUSES];
        final int[] go = new int[MOST_HOUSES];
        final int[] come = new int[MOST_HOUSES];
        final int[] temper = new int[MOST_HOUSES];
        final int[] door = new int[MOST_SPARES];
        final int[] box = new int[MOST_SPARES];
        final Laws laws = new Laws();

        void clear() {
            houses = 0;
            spares = 0;
            both = 0;
            seed = 0;
            laws.clear();
        }

        int houseNamed(long sought) {
            for (int house = 0; house < houses; house++) {
                if (name[house] == sought) {
                    return house;
                }
            }
            return NONE;
        }
    }

    /** The LAWS, as code for a small stack, its jumps leading on only. */
    private static final class Laws {
        static final int NUMBER = 0;
        static final int VARIABLE = 1;
        static final int ADD = 2;
        static final int SUBTRACT = 3;
        static final int MULTIPLY = 4;
        static final int DIVIDE = 5;
        static final int UNLESS_LESS = 6;
        static final int ANSWER = 7;

        static final int HOUR = 0;
        static final int DAY = 1;
        static final int WAITED = 2;
        static final int TEMPER = 3;
        static final int OTHER = 4;
        static final int WHICH = 5;
        static final int INSIDE = 6;
        static final int OUTSIDE = 7;
        static final int KEYS = 8;
        static final int VARIABLES = 9;

        /** Each TOKEN makes one step at most; the LAWS that are not told have two each. */
        static final int MOST_STEPS = MOST_TOKENS + 2 * LAWS;
        /** Two for each ( that is open and for the whole, one on top, one for the left of a < : 16 are used. */
        static final int STACK = 24;

        final int[] code = new int[MOST_STEPS];
        int size = 0;
        final int[] start = new int[LAWS];
        final int[] variables = new int[VARIABLES];
        final int[] stack = new int[STACK];

        Laws() {
            clear();
        }

        void clear() {
            size = 0;
            putDefault(LETS, NUMBER, 1);
            putDefault(QUARREL, VARIABLE, WAITED);
            putDefault(RENT, VARIABLE, INSIDE);
            putDefault(LATE, NUMBER, 0);
        }

        private void putDefault(int law, int kind, int value) {
            start[law] = size;
            put(kind, value);
            put(ANSWER, 0);
        }

        int put(int kind, int value) {
            int at = size;
            if (size < MOST_STEPS) {
                code[size] = kind | value << 4;
                size++;
            }
            return at;
        }

        void jumpToHere(int at) {
            if (at >= 0 && at < size) {
                code[at] = UNLESS_LESS | size << 4;
            }
        }

        int valueOf(int law) {
            int at = start[law];
            int top = 0;
            while (at < size) {
                int kind = code[at] & 15;
                int value = code[at] >> 4;
                at++;
                if (kind == NUMBER || kind == VARIABLE) {
                    if (top >= STACK || kind == VARIABLE && (value < 0 || value >= VARIABLES)) {
                        return 0;
                    }
                    stack[top] = kind == NUMBER ? value : variables[value];
                    top++;
                } else if (kind == ANSWER) {
                    return top > 0 ? stack[top - 1] : 0;
                } else if (top < 2) {
                    return 0;
                } else if (kind == UNLESS_LESS) {
                    top -= 2;
                    at = stack[top] < stack[top + 1] ? at : Math.max(at, value);
                } else if (kind == DIVIDE && stack[top - 1] == 0) {
                    return 0;
                } else {
                    top--;
                    stack[top - 1] = joined(kind, stack[top - 1], stack[top]);
                }
            }
            return 0;
        }

        private static int joined(int kind, int left, int right) {
            switch (kind) {
                case ADD: return left + right;
                case SUBTRACT: return left - right;
                case MULTIPLY: return left * right;
                default: return right == 0 ? 0 : left / right;
            }
        }
    }

    /** The TOKENS of a tape, up to the first that is none or the first that is too many. */
    private static final class Tokens {
        static final String WORDS = "house   spare   both    lets    quarrel rent    late    seed    if      then    else    hour    day     waited  temper  other   which   inside  outside keys    ";
        static final int WORD_COUNT = 20;
        static final String SIGNS = ";=+-*/<()";

        static final int WORD_HOUSE = 0;
        static final int WORD_SPARE = 1;
        static final int WORD_BOTH = 2;
        static final int WORD_LETS = 3;
        static final int WORD_LATE = 6;
        static final int WORD_SEED = 7;
        static final int WORD_IF = 8;
        static final int WORD_THEN = 9;
        static final int WORD_ELSE = 10;
        static final int WORD_HOUR = 11;
        static final int WORD_KEYS = 19;
        static final int A_NAME = 20;
        static final int AN_INT = 21;
        static final int SEMICOLON = 22;
        static final int EQUALS = 23;
        static final int PLUS = 24;
        static final int MINUS = 25;
        static final int TIMES = 26;
        static final int OVER = 27;
        static final int LESS = 28;
        static final int OPEN = 29;
        static final int CLOSE = 30;
        static final int END = 31;
        static final int NO_TOKEN = 32;

        static final int MOST_LETTERS = 8;
        static final int MOST_DIGITS = 4;
        /** The first that is too many, and the text's end behind it. */
        static final int ROWS = MOST_TOKENS + 2;

        final int[] kind = new int[ROWS];
        final int[] start = new int[ROWS];
        final long[] value = new long[ROWS];
        int size = 0;

        void scan(byte[] tape, int length) {
            size = 0;
            int at = 0;
            while (at < length && size <= MOST_TOKENS) {
                if (isBlank(tape[at])) {
                    at++;
                } else {
                    int end = runEnd(tape, at, length);
                    put(kindOf(tape, at, end), at, valueOf(tape, at, end));
                    at = kind[size - 1] == NO_TOKEN ? length : end;
                }
            }
            if (size == 0 || kind[size - 1] != NO_TOKEN) {
                put(END, length, 0);
            }
        }

        private void put(int what, int where, long number) {
            if (size < ROWS) {
                kind[size] = what;
                start[size] = where;
                value[size] = number;
                size++;
            }
        }

        private static int runEnd(byte[] tape, int at, int length) {
            int end = at + 1;
            if (isLetter(tape[at])) {
                while (end < length && isLetter(tape[end])) {
                    end++;
                }
            } else if (isDigit(tape[at])) {
                while (end < length && isDigit(tape[end])) {
                    end++;
                }
            }
            return end;
        }

        private static int kindOf(byte[] tape, int at, int end) {
            if (isLetter(tape[at])) {
                return end - at > MOST_LETTERS ? NO_TOKEN : wordOf(tape, at, end);
            }
            if (isDigit(tape[at])) {
                return end - at > MOST_DIGITS ? NO_TOKEN : AN_INT;
            }
            for (int i = 0; i < SIGNS.length(); i++) {
                if (SIGNS.charAt(i) == tape[at]) {
                    return SEMICOLON + i;
                }
            }
            return NO_TOKEN;
        }

        private static int wordOf(byte[] tape, int at, int end) {
            for (int word = 0; word < WORD_COUNT; word++) {
                if (isWord(tape, at, end, word * MOST_LETTERS)) {
                    return word;
                }
            }
            return A_NAME;
        }

        /** Blanks fill each word up, so that a shorter run of letters is not taken for it. */
        private static boolean isWord(byte[] tape, int at, int end, int wordAt) {
            for (int i = 0; i < MOST_LETTERS; i++) {
                int letter = at + i < end ? tape[at + i] : ' ';
                if (WORDS.charAt(wordAt + i) != letter) {
                    return false;
                }
            }
            return true;
        }

        /** An INT's number, or one that no other NAME has. */
        private static long valueOf(byte[] tape, int at, int end) {
            long number = 0;
            boolean letters = isLetter(tape[at]);
            int most = Math.min(end, at + MOST_LETTERS);
            for (int i = at; i < most; i++) {
                number = letters ? number * 27 + (tape[i] - 'a' + 1) : number * 10 + (tape[i] - '0');
            }
            return number;
        }

        private static boolean isBlank(int sign) {
            return sign == 9 || sign == 10 || sign == 13 || sign == 32;
        }

        private static boolean isLetter(int sign) {
            return sign >= 'a' && sign <= 'z';
        }

        private static boolean isDigit(int sign) {
            return sign >= '0' && sign <= '9';
        }
    }

    /** Reads a tape into a Text; its methods tell whether reading can go on. */
    private static final class Reader {
        final Tokens tokens = new Tokens();
        int at = 0;
        Text text;
        int fault = 0;
        int place = NONE;
        /** Faults 3 to 5 count only in a text without faults 1 and 2, so the first waits here. */
        int laterFault = 0;
        int laterPlace = NONE;

        Reader(Text draft) {
            text = draft;
        }

        int readText(byte[] tape, int length, Text draft) {
            tokens.scan(tape, length);
            at = 0;
            text = draft;
            text.clear();
            fault = 0;
            place = NONE;
            laterFault = 0;
            laterPlace = NONE;
            boolean goesOn = true;
            for (int tells = 0; tells <= MOST_TOKENS && goesOn; tells++) {
                goesOn = kindHere() != Tokens.END && readTell();
            }
            if (fault == 0) {
                fault = laterFault;
                place = laterPlace;
            }
            return fault;
        }

        private boolean readTell() {
            int kind = kindHere();
            if (kind == Tokens.WORD_HOUSE) {
                return readHouse();
            }
            if (kind == Tokens.WORD_SPARE) {
                return readSpare();
            }
            if (kind == Tokens.WORD_BOTH) {
                return readBoth();
            }
            if (kind >= Tokens.WORD_LETS && kind <= Tokens.WORD_LATE) {
                return readLaw(kind - Tokens.WORD_LETS);
            }
            if (kind == Tokens.WORD_SEED) {
                return readSeed();
            }
            return stop(SYNTAX);
        }

        private boolean readHouse() {
            if (text.houses >= MOST_HOUSES) {
                return stop(ROOM);
            }
            int house = text.houses;
            if (!take(Tokens.WORD_HOUSE)) {
                return false;
            }
            text.name[house] = valueHere();
            if (kindHere() == Tokens.A_NAME && text.houseNamed(valueHere()) != NONE) {
                note(TWICE);
            }
            if (!take(Tokens.A_NAME)) {
                return false;
            }
            text.go[house] = intHere(DAY_HOURS - 1);
            if (!take(Tokens.AN_INT)) {
                return false;
            }
            text.come[house] = intHere(DAY_HOURS - 1);
            if (!take(Tokens.AN_INT)) {
                return false;
            }
            text.temper[house] = intHere(9);
            text.houses++;
            return take(Tokens.AN_INT) && take(Tokens.SEMICOLON);
        }

        private boolean readSpare() {
            if (text.spares >= MOST_SPARES) {
                return stop(ROOM);
            }
            int spare = text.spares;
            if (!take(Tokens.WORD_SPARE)) {
                return false;
            }
            text.door[spare] = houseHere();
            if (!take(Tokens.A_NAME)) {
                return false;
            }
            text.box[spare] = houseHere();
            text.spares++;
            return take(Tokens.A_NAME) && take(Tokens.SEMICOLON);
        }

        private boolean readBoth() {
            if (!take(Tokens.WORD_BOTH)) {
                return false;
            }
            int house = houseHere();
            if (house != NONE) {
                if (bit(text.both, house) == 1) {
                    note(TWICE);
                }
                text.both |= 1 << house;
            }
            return take(Tokens.A_NAME) && take(Tokens.SEMICOLON);
        }

        private boolean readSeed() {
            if (!take(Tokens.WORD_SEED)) {
                return false;
            }
            text.seed = (int) valueHere();
            return take(Tokens.AN_INT) && take(Tokens.SEMICOLON);
        }

        private boolean readLaw(int law) {
            if (!take(Tokens.WORD_LETS + law) || !take(Tokens.EQUALS)) {
                return false;
            }
            text.laws.start[law] = text.laws.size;
            int ifs = 0;
            while (ifs <= MOST_IFS && kindHere() == Tokens.WORD_IF) {
                ifs++;
                if (ifs > MOST_IFS) {
                    return stop(ROOM);
                }
                if (!readIf()) {
                    return false;
                }
            }
            if (!readSum(0)) {
                return false;
            }
            text.laws.put(Laws.ANSWER, 0);
            return take(Tokens.SEMICOLON);
        }

        private boolean readIf() {
            if (!take(Tokens.WORD_IF) || !readSum(0) || !take(Tokens.LESS) || !readSum(0) || !take(Tokens.WORD_THEN)) {
                return false;
            }
            int jump = text.laws.put(Laws.UNLESS_LESS, 0);
            if (!readSum(0) || !take(Tokens.WORD_ELSE)) {
                return false;
            }
            text.laws.put(Laws.ANSWER, 0);
            text.laws.jumpToHere(jump);
            return true;
        }

        private boolean readSum(int deep) {
            if (!readProduct(deep)) {
                return false;
            }
            for (int parts = 1; parts <= MOST_TOKENS; parts++) {
                int kind = kindHere();
                if (kind != Tokens.PLUS && kind != Tokens.MINUS) {
                    return true;
                }
                if (!take(kind) || !readProduct(deep)) {
                    return false;
                }
                text.laws.put(kind == Tokens.PLUS ? Laws.ADD : Laws.SUBTRACT, 0);
            }
            return stop(ROOM);
        }

        private boolean readProduct(int deep) {
            if (!readUnit(deep)) {
                return false;
            }
            for (int units = 1; units <= MOST_TOKENS; units++) {
                int kind = kindHere();
                if (kind != Tokens.TIMES && kind != Tokens.OVER) {
                    return true;
                }
                if (!take(kind) || !readUnit(deep)) {
                    return false;
                }
                text.laws.put(kind == Tokens.TIMES ? Laws.MULTIPLY : Laws.DIVIDE, 0);
            }
            return stop(ROOM);
        }

        private boolean readUnit(int deep) {
            int kind = kindHere();
            if (kind == Tokens.AN_INT) {
                text.laws.put(Laws.NUMBER, (int) valueHere());
                return take(kind);
            }
            if (kind >= Tokens.WORD_HOUR && kind <= Tokens.WORD_KEYS) {
                text.laws.put(Laws.VARIABLE, kind - Tokens.WORD_HOUR);
                return take(kind);
            }
            if (kind != Tokens.OPEN) {
                return stop(SYNTAX);
            }
            if (deep >= MOST_DEEP) {
                return stop(ROOM);
            }
            return take(Tokens.OPEN) && readSum(deep + 1) && take(Tokens.CLOSE);
        }

        private int kindHere() {
            return at < tokens.size ? tokens.kind[at] : Tokens.END;
        }

        private long valueHere() {
            return at < tokens.size ? tokens.value[at] : 0;
        }

        private int intHere(int most) {
            if (kindHere() != Tokens.AN_INT) {
                return 0;
            }
            if (valueHere() > most) {
                note(WRONG);
            }
            return (int) valueHere();
        }

        private int houseHere() {
            if (kindHere() != Tokens.A_NAME) {
                return NONE;
            }
            int house = text.houseNamed(valueHere());
            if (house == NONE) {
                note(NAME);
            }
            return house;
        }

        /** A TOKEN that fits but is too many is ROOM; one that does not fit is SYNTAX even so. */
        private boolean take(int kind) {
            if (kindHere() != kind) {
                return stop(SYNTAX);
            }
            if (at >= MOST_TOKENS) {
                return stop(ROOM);
            }
            at++;
            return true;
        }

        private boolean stop(int number) {
            fault = number;
            place = at < tokens.size ? tokens.start[at] : NONE;
            return false;
        }

        private void note(int number) {
            if (laterFault == 0) {
                laterFault = number;
                laterPlace = at < tokens.size ? tokens.start[at] : NONE;
            }
        }
    }

    /** The crescent at one hour: all that goes on, and so all that is undone, held and tried. */
    private static final class Ring {
        Text text;
        int hour = 0;
        int in = 0;
        int outside = 0;
        int kept = 0;
        int late = 0;
        int gone = 0;
        boolean punctual = false;
        int seed = 0;
        int quarrels = 0;
        int letIns = 0;
        int spareIns = 0;
        final int[] go = new int[MOST_HOUSES];
        final int[] come = new int[MOST_HOUSES];
        final int[] temper = new int[MOST_HOUSES];
        final int[] who = new int[MOST_HOUSES];
        final int[] waited = new int[MOST_HOUSES];
        final int[] opener = new int[MOST_HOUSES];
        final int[] box = new int[MOST_SPARES];
        final int[] goal = new int[MOST_SPARES];

        Ring(Text text) {
            this.text = text;
        }

        void begin(Text told) {
            text = told;
            hour = 0;
            in = (1 << told.houses) - 1;
            outside = 0;
            kept = 0;
            late = 0;
            gone = 0;
            punctual = false;
            seed = told.seed;
            quarrels = 0;
            letIns = 0;
            spareIns = 0;
            System.arraycopy(told.go, 0, go, 0, MOST_HOUSES);
            System.arraycopy(told.come, 0, come, 0, MOST_HOUSES);
            System.arraycopy(told.temper, 0, temper, 0, MOST_HOUSES);
            for (int house = 0; house < MOST_HOUSES; house++) {
                who[house] = house;
            }
            Arrays.fill(waited, 0);
            Arrays.fill(opener, NOTHING);
            System.arraycopy(told.box, 0, box, 0, MOST_SPARES);
            Arrays.fill(goal, NOTHING);
        }

        void copyFrom(Ring other) {
            text = other.text;
            hour = other.hour;
            in = other.in;
            outside = other.outside;
            kept = other.kept;
            late = other.late;
            gone = other.gone;
            punctual = other.punctual;
            seed = other.seed;
            quarrels = other.quarrels;
            letIns = other.letIns;
            spareIns = other.spareIns;
            System.arraycopy(other.go, 0, go, 0, MOST_HOUSES);
            System.arraycopy(other.come, 0, come, 0, MOST_HOUSES);
            System.arraycopy(other.temper, 0, temper, 0, MOST_HOUSES);
            System.arraycopy(other.who, 0, who, 0, MOST_HOUSES);
            System.arraycopy(other.waited, 0, waited, 0, MOST_HOUSES);
            System.arraycopy(other.opener, 0, opener, 0, MOST_HOUSES);
            System.arraycopy(other.box, 0, box, 0, MOST_SPARES);
            System.arraycopy(other.goal, 0, goal, 0, MOST_SPARES);
        }

        // -- one hour

        void goThroughHour() {
            if (hour % DAY_HOURS == 0) {
                passSparesOn();
            }
            int went = letPeopleGo();
            letPeopleCome(went);
            letPeopleIn();
            letPeopleWait();
            hour++;
        }

        private void passSparesOn() {
            for (int spare = 0; spare < text.spares; spare++) {
                if (goal[spare] != NOTHING && goal[spare] != box[spare]) {
                    box[spare] = rightOf(box[spare]);
                }
            }
        }

        private int letPeopleGo() {
            int went = 0;
            int hourOfDay = hour % DAY_HOURS;
            int free = (in | outside) & ~kept;
            for (int house = 0; house < text.houses; house++) {
                if (go[house] == hourOfDay && bit(free, house) == 1) {
                    went |= 1 << house;
                    waited[house] = 0;
                }
            }
            in &= ~went;
            outside &= ~went;
            return went;
        }

        private void letPeopleCome(int went) {
            int hourOfDay = hour % DAY_HOURS;
            int lateAhead = late;
            late = 0;
            for (int house = 0; house < text.houses; house++) {
                boolean wasLate = bit(lateAhead, house) == 1;
                boolean away = bit(in | outside | went | gone, house) == 0;
                if (away && (come[house] == hourOfDay || wasLate)) {
                    if (!wasLate && !punctual && isLate(house)) {
                        late |= 1 << house;
                    } else {
                        outside |= 1 << house;
                    }
                }
            }
        }

        private boolean isLate(int house) {
            setVariables(0, temper[house], 0, house, 0);
            int chance = text.laws.valueOf(LATE);
            return lot(100, seed, 32 * hour + house) < Math.max(0, Math.min(100, chance));
        }

        private static int lot(int n, int seed, int which) {
            int h = seed;
            for (int i = 0; i < 2; i++) {
                h = (h ^ (i == 0 ? 133 : which)) * 1103515245 + 12345;
                h ^= h >>> 15;
            }
            return n > 0 ? (h >>> 1) % n : 0;
        }

        /** Each round but the last lets somebody in, so there is one more than HOUSES at most. */
        void letPeopleIn() {
            boolean again = outside != 0;
            for (int round = 0; round <= MOST_HOUSES && again; round++) {
                again = false;
                for (int house = 0; house < text.houses; house++) {
                    if (bit(outside, house) == 1) {
                        again |= letInIfCan(house);
                    }
                }
            }
        }

        private boolean letInIfCan(int house) {
            boolean bySpare = hasOwnSpare(house);
            int left = leftOf(house);
            int right = rightOf(house);
            if (bySpare || text.houses == 1) {
                opener[house] = house;
            } else if (!isOut(left) && wouldLetIn(left, house)) {
                opener[house] = left;
            } else if (!isOut(right) && bit(text.both, right) == 1 && wouldLetIn(right, house)) {
                opener[house] = right;
            } else {
                return false;
            }
            bringIn(house);
            letIns++;
            spareIns += bySpare ? 1 : 0;
            return true;
        }

        boolean wouldLetIn(int host, int guest) {
            setVariables(waited[guest], temper[host], temper[guest], guest, 0);
            return text.laws.valueOf(LETS) > 0;
        }

        /** What is tried without LATE ones asks for no QUARRELS, so they are left out there. */
        private void letPeopleWait() {
            for (int house = 0; house < text.houses && outside != 0; house++) {
                if (bit(outside, house) == 1) {
                    waited[house]++;
                    if (!punctual) {
                        quarrels = Math.min(MOST_QUARRELS, quarrels + quarrelOf(house));
                    }
                }
            }
        }

        private int quarrelOf(int house) {
            setVariables(waited[house], temper[house], 0, house, 0);
            return Math.max(0, Math.min(99, text.laws.valueOf(QUARREL)));
        }

        private void setVariables(int hoursWaited, int itsTemper, int otherTemper, int which, int keys) {
            int[] variables = text.laws.variables;
            variables[Laws.HOUR] = hour % DAY_HOURS;
            variables[Laws.DAY] = hour / DAY_HOURS;
            variables[Laws.WAITED] = hoursWaited;
            variables[Laws.TEMPER] = itsTemper;
            variables[Laws.OTHER] = otherTemper;
            variables[Laws.WHICH] = which;
            variables[Laws.INSIDE] = Integer.bitCount(in);
            variables[Laws.OUTSIDE] = Integer.bitCount(outside);
            variables[Laws.KEYS] = keys;
        }

        // -- what is done by hand, or tried

        boolean bothIn(int house, int other) {
            return bit(in, house) == 1 && bit(in, other) == 1;
        }

        void swapPeople(int house, int other) {
            swap(go, house, other);
            swap(come, house, other);
            swap(temper, house, other);
            swap(who, house, other);
            if (bit(kept, house) != bit(kept, other)) {
                kept ^= 1 << house | 1 << other;
            }
        }

        private static void swap(int[] row, int one, int two) {
            int first = row[one];
            row[one] = row[two];
            row[two] = first;
        }

        void bringIn(int house) {
            in |= 1 << house;
            outside &= ~(1 << house);
            waited[house] = 0;
        }

        void sendAway(int house) {
            in &= ~(1 << house);
            outside &= ~(1 << house);
            gone |= 1 << house;
            waited[house] = 0;
        }

        // -- what is asked

        int whereIs(int house) {
            return bit(in, house) == 1 ? 0 : 1 + bit(outside, house);
        }

        private boolean isOut(int house) {
            return bit(in | outside, house) == 0;
        }

        private int leftOf(int house) {
            return house > 0 ? house - 1 : text.houses - 1;
        }

        private int rightOf(int house) {
            return house + 1 < text.houses ? house + 1 : 0;
        }

        private boolean hasOwnSpare(int house) {
            for (int spare = 0; spare < text.spares; spare++) {
                if (text.door[spare] == house && box[spare] == house) {
                    return true;
                }
            }
            return false;
        }

        int openersOf(int house) {
            int left = leftOf(house);
            int right = rightOf(house);
            int bits = 0;
            if (text.houses == 1 || hasOwnSpare(house)) {
                bits |= 1 << house;
            }
            if (!isOut(left)) {
                bits |= 1 << left;
            }
            if (!isOut(right) && bit(text.both, right) == 1) {
                bits |= 1 << right;
            }
            return bits;
        }

        int waysOf(int spare, int house) {
            int apart = house - box[spare];
            return apart < 0 ? apart + text.houses : apart;
        }

        int sparesWithGoal() {
            int bits = 0;
            for (int spare = 0; spare < text.spares; spare++) {
                if (goal[spare] != NOTHING) {
                    bits |= 1 << spare;
                }
            }
            return bits;
        }

        int rentOf(int house) {
            int keys = 0;
            for (int spare = 0; spare < text.spares; spare++) {
                if (box[spare] == house) {
                    keys++;
                }
            }
            setVariables(0, temper[house], 0, house, keys);
            return Math.max(0, Math.min(99, text.laws.valueOf(RENT)));
        }

        int rentOfAll() {
            int sum = 0;
            for (int house = 0; house < text.houses; house++) {
                sum += rentOf(house);
            }
            return sum;
        }
    }

    /** Who stood OUTSIDE behind the hours that a Ring was taken through. */
    private static final class Watch {
        final int[] each = new int[MOST_HOUSES];
        int all = 0;
        int peak = 0;
        int peakHour = 0;
        int ever = 0;

        void follow(Ring ring, int hours) {
            Arrays.fill(each, 0);
            all = 0;
            peak = 0;
            peakHour = 0;
            ever = 0;
            for (int i = 0; i < hours; i++) {
                ring.goThroughHour();
                note(ring.outside, i);
            }
        }

        private void note(int outside, int hour) {
            int number = Integer.bitCount(outside);
            all += number;
            ever |= outside;
            if (number > peak) {
                peak = number;
                peakHour = hour;
            }
            for (int house = 0; house < MOST_HOUSES && number > 0; house++) {
                each[house] += bit(outside, house);
            }
        }

        /** Goes no further than the first hour behind which somebody stands OUTSIDE. */
        int firstHour(Ring ring, int hours) {
            for (int i = 0; i < hours; i++) {
                ring.goThroughHour();
                if (ring.outside != 0) {
                    return i;
                }
            }
            return NOTHING;
        }
    }
}
