import java.util.Arrays;

/** A hill people who talk by drums that nobody may answer on the same day (../shared/DOC.md). */
public final class HillDrums {
    public static final int NONE = -1;

    private static final int NOT = -2;
    private static final int UNABLE = -3;

    private static final int MAX_BYTES = 2000;
    private static final int MAX_TOKENS = 400;
    private static final int MAX_HILLS = 6;
    private static final int MAX_NEWS = 4;
    private static final int MAX_SLEEPERS = 4;
    private static final int MAX_ROW = 12;
    private static final int MAX_IFS = 4;
    private static final int MAX_NESTED = 6;
    private static final int MAX_DRUMS = 60;
    private static final int MAX_UNDONE = 40;
    private static final int MAX_TOLD = 20;
    private static final int MAX_SLOTS = 3;
    private static final int MAX_NUMBER = 99;
    private static final int MAX_SLEEP = 9;
    private static final int LAST_DAY_ASKED = 9999;
    private static final int RUN_DAYS = 100;
    private static final int RULE_DAYS = 200;
    private static final int PLAN_DAYS = 60;
    private static final int LOOP_DRUMS = 3;
    private static final int SURE_DRUMS = 18;

    // A pair of a HILL and a NEWS is the bit MAX_HILLS * news + hill of an int: four rows of six HILLS.
    private static final int PAIRS = 24;
    private static final int HILL_SETS = 64;
    private static final int HILL_BITS = 63;
    private static final int ONE_HILL_ALL_NEWS = 0x41041;

    private static final int FREE = 0;
    private static final int TOPIC = 1;
    private static final int ANY = 2;
    private static final int ORDERS = 4;

    private static final int SYNTAX_FAULT = 1;
    private static final int ROOM_FAULT = 2;
    private static final int TWICE_FAULT = 3;
    private static final int NAME_FAULT = 4;
    private static final int WRONG_FAULT = 5;

    // Kinds of TOKENS: a SIGN is its own character, a word stands by its cell in WORDS.
    private static final int END = 0;
    private static final int BAD = 1;
    private static final int NAME = 2;
    private static final int INT = 3;
    private static final int WORD = 128;
    private static final int W_HILL = 128;
    private static final int W_NEWS = 129;
    private static final int W_AT = 130;
    private static final int W_HEARS = 131;
    private static final int W_IF = 132;
    private static final int W_THEN = 133;
    private static final int W_ELSE = 134;
    private static final int W_ORDER = 135;
    private static final int W_FREE = 136;
    private static final int W_OTHER = 139;
    private static final int W_SLEEPER = 140;
    private static final int W_FAR = 141;
    private static final int W_WIND = 142;
    private static final int W_FOG = 143;
    private static final int W_TO = 146;
    private static final int ALL_WORDS = 19;
    private static final int WORD_CELL = 8;
    private static final String WORDS =
        "hill    news    at      hears   if      then    else    order   free    topic   any     other   sleeper far     wind    fog     day     from    to      ";
    private static final String SIGNS = ";=+-*/<()";

    private static final int SEEN_TOKENS = 401;
    private static final int VARS = 6;
    // Six ( within one another keep 2 numbers each, the innermost E 3, the left side of a < one: 16.
    private static final int STACK = 32;
    // A whole forecast (RULE_DAYS) finds its days without two of them in one cell.
    private static final int DAY_CELLS = 256;
    private static final int FAR_TOO_MANY = 1000000;

    private final Tape tape = new Tape();
    private Text text = new Text();
    private Text spare = new Text();
    private final Reader reader = new Reader(spare);
    private int faultPlace = NONE;
    private final World now = new World();
    private final World would = new World();
    private final Past past = new Past();
    private final World[] slots = new World[MAX_SLOTS];
    private int heldSlots = 0;
    private final Told told = new Told();
    private final Plans plans = new Plans();
    private final Loop loop = new Loop();

    public HillDrums() {
        for (int slot = 0; slot < MAX_SLOTS; slot++) {
            slots[slot] = new World();
        }
        text.clear();
        now.begin(text);
    }

    // ==== I. The text

    public int feed(int a, int b, int c, int d, int e) {
        if (tape.length + 20 > MAX_BYTES) {
            return NONE;
        }
        tape.add(a);
        tape.add(b);
        tape.add(c);
        tape.add(d);
        tape.add(e);
        return tape.length;
    }

    public int back(int n) {
        if (n < 0 || n > tape.length) {
            return NONE;
        }
        tape.length -= n;
        return tape.length;
    }

    public int read() {
        reader.parse(tape, spare);
        tape.length = 0;
        faultPlace = reader.place;
        if (reader.fault == 0) {
            takeSpareText();
        }
        return reader.fault;
    }

    private void takeSpareText() {
        Text old = text;
        text = spare;
        spare = old;
        now.begin(text);
        past.size = 0;
        told.size = 0;
        heldSlots = 0;
    }

    public int place() {
        return faultPlace;
    }

    // ==== II. Drums and nights

    private boolean isHill(int hill) {
        return hill >= 0 && hill < text.hills;
    }

    private boolean isNews(int news) {
        return news >= 0 && news < text.newsTold;
    }

    public int hears(int a, int b, int day) {
        if (!isHill(a) || !isHill(b) || day < 0 || day > LAST_DAY_ASKED) {
            return NONE;
        }
        return a == b || text.lawTells(a, b, day) ? 1 : 0;
    }

    public int news(int hill, int news, int what) {
        if (!isHill(hill) || !isNews(news) || what < 0 || what > 4) {
            return NONE;
        }
        boolean known = now.knows(hill, news);
        if (what == 0) {
            return known ? 1 : 0;
        }
        int pair = pairOf(hill, news);
        if (what == 4) {
            return now.clashing() >> pair & 1;
        }
        if (!known) {
            return NOT;
        }
        if (what == 1) {
            return now.since[pair];
        }
        return what == 2 ? now.from[pair] : now.deniedFirst >> pair & 1;
    }

    public int drum(int hill, int news, boolean denied) {
        int lawful = may(hill, news, denied);
        if (lawful != 1) {
            return lawful == 0 ? NOT : lawful;
        }
        int heard = hearersOf(text.heardOn(now.day), hill);
        past.push(now);
        now.drumByDay(hill, news, denied, heard);
        return Integer.bitCount(heard & ~(1 << hill));
    }

    public int may(int hill, int news, boolean denied) {
        if (!isHill(hill) || !isNews(news)) {
            return NONE;
        }
        if (!now.isAble(hill, news)) {
            return UNABLE;
        }
        return now.isAnswer(text.order, hill, news, denied) ? 0 : 1;
    }

    public int drummed(int i, int what) {
        if (i < 0 || i >= now.today || i >= MAX_DRUMS) {
            return NONE;
        }
        int drum = now.drumsOfDay[i];
        switch (what) {
            case 0:
                return drum & 7;
            case 1:
                return drum >> 3 & 7;
            case 2:
                return drum >> 6 & 1;
            case 3:
                return drum >> 7 & HILL_BITS;
            default:
                return NONE;
        }
    }

    public int night() {
        past.push(now);
        now.passNight(text, NONE);
        return now.day;
    }

    public int run(int n) {
        if (n < 0 || n > RUN_DAYS) {
            return NONE;
        }
        if (n > 0) {
            past.push(now);
        }
        for (int i = 0; i < n; i++) {
            now.passDay(text, text.order, NONE);
        }
        return now.day;
    }

    public boolean undo() {
        return past.pop(now);
    }

    public int clashes(int news) {
        return isNews(news) ? rowOf(now.clashing(), news) : NONE;
    }

    // ==== III. What would be

    /** Behind how many days by the RULE all the wanted pairs are KNOWN. */
    private int daysTill(int wanted, int order, int silent) {
        would.copy(now);
        for (int days = 0; days < RULE_DAYS; days++) {
            if ((would.known & wanted) == wanted) {
                return days;
            }
            would.passDay(text, order, silent);
        }
        return (would.known & wanted) == wanted ? RULE_DAYS : NOT;
    }

    public int byRule(int news, int hill) {
        if (!isNews(news) || !isHill(hill)) {
            return NONE;
        }
        return daysTill(1 << pairOf(hill, news), text.order, NONE);
    }

    public int agreed(int a, int b, int news, int other) {
        if (!isHill(a) || !isHill(b) || a == b || !isNews(news) || !isNews(other)) {
            return NONE;
        }
        int both = 1 << a | 1 << b;
        return daysTill(both << MAX_HILLS * news | both << MAX_HILLS * other, text.order, NONE);
    }

    public int talk(int n) {
        if (n < 1 || n > RULE_DAYS) {
            return NONE;
        }
        would.copy(now);
        for (int i = 0; i < n; i++) {
            would.passDay(text, text.order, NONE);
        }
        return would.inAll - now.inAll;
    }

    public int bestOrder(int news, int what) {
        if (!isNews(news) || what < 0 || what > 1) {
            return NONE;
        }
        int best = NOT;
        int bestDays = NOT;
        int wanted = text.allHills() << MAX_HILLS * news;
        for (int order = 0; order < ORDERS; order++) {
            int days = daysTill(wanted, order, NONE);
            if (isSooner(days, bestDays)) {
                best = order;
                bestDays = days;
            }
        }
        return what == 0 ? best : bestDays;
    }

    public int quiet(int news, int hill, int what) {
        if (!isNews(news) || !isHill(hill) || what < 0 || what > 1 || now.knows(hill, news)) {
            return NONE;
        }
        int wanted = 1 << pairOf(hill, news);
        int best = NOT;
        int bestDays = daysTill(wanted, text.order, NONE);
        for (int silent = 0; silent < text.hills; silent++) {
            int days = daysTill(wanted, text.order, silent);
            if (isSooner(days, bestDays)) {
                best = silent;
                bestDays = days;
            }
        }
        return what == 0 ? best : bestDays;
    }

    private static boolean isSooner(int days, int than) {
        return days != NOT && (than == NOT || days < than);
    }

    public int soonest(int news, int hill) {
        if (!isNews(news) || !isHill(hill)) {
            return NONE;
        }
        return plans.fewestDays(text, now, news, 1 << hill);
    }

    public int all(int news) {
        return isNews(news) ? plans.fewestDays(text, now, news, text.allHills()) : NONE;
    }

    public int drums(int news) {
        return isNews(news) ? plans.fewestDrums(text, now, news) : NONE;
    }

    public int loophole(int a, int b, int news) {
        if (!isHill(a) || !isHill(b) || a == b || !isNews(news) || !now.knows(a, news)) {
            return NONE;
        }
        loop.seek(text, now, a, b, news);
        return loop.length == 0 ? NOT : loop.length;
    }

    public int loopholeAt(int a, int b, int news, int i) {
        if (i < 0) {
            return NONE;
        }
        int length = loophole(a, b, news);
        if (length < 0) {
            return length;
        }
        return i < length && i < LOOP_DRUMS ? loop.found[i] : NONE;
    }

    public int sure(int a, int b, int p, int q) {
        if (b < 1 || b > 9 || q < 1 || q > 9 || a < 0 || a > b || p < 0 || p > q) {
            return NONE;
        }
        // 9 to the 18th, nine times, stays below 2 to the 63rd: nothing wraps.
        long ways = 1;
        long lost = 1;
        for (int drums = 1; drums <= SURE_DRUMS; drums++) {
            ways *= b;
            lost *= a;
            if (q * (ways - lost) >= p * ways) {
                return drums;
            }
        }
        return NOT;
    }

    // ==== IV. What was told, held, gone on from

    public int tell(int hill, int news, int day) {
        if (!isHill(hill) || !isNews(news) || day < 0 || day > MAX_NUMBER || told.size >= MAX_TOLD) {
            return NONE;
        }
        return told.add(hill, news, day);
    }

    public int forget() {
        int size = told.size;
        told.size = 0;
        return size;
    }

    public int beginners(int news, int k) {
        if (!isNews(news) || k < 0 || k > told.size) {
            return NONE;
        }
        int days = told.daysNeeded(news, k);
        int bits = 0;
        for (int hill = 0; hill < text.hills; hill++) {
            would.begin(text);
            would.beginAt(hill, news);
            for (int day = 0; day < days; day++) {
                would.passDay(text, text.order, NONE);
            }
            if (told.isSo(would, news, k)) {
                bits |= 1 << hill;
            }
        }
        return bits;
    }

    public boolean hold(int slot) {
        if (slot < 0 || slot >= MAX_SLOTS || slots[slot] == null) {
            return false;
        }
        slots[slot].copy(now);
        heldSlots |= 1 << slot;
        return true;
    }

    public boolean restore(int slot) {
        if (slot < 0 || slot >= MAX_SLOTS || slots[slot] == null || (heldSlots >> slot & 1) == 0) {
            return false;
        }
        now.copy(slots[slot]);
        past.size = 0;
        return true;
    }

    public int count(int what) {
        switch (what) {
            case 0:
                return text.hills;
            case 1:
                return text.newsTold;
            case 2:
                return now.day;
            case 3:
                return now.today;
            case 4:
                return now.inAll;
            case 5:
                return text.order;
            case 6:
                return text.sleepers;
            case 7:
                return text.wind.size;
            case 8:
                return text.fog.size;
            case 9:
                return tape.length;
            case 10:
                return past.size;
            case 11:
                return told.size;
            case 12:
                return Integer.bitCount(heldSlots);
            case 13:
                return Integer.bitCount(now.known);
            default:
                return NONE;
        }
    }

    // ==== Pairs and bits

    private static int pairOf(int hill, int news) {
        return MAX_HILLS * news + hill;
    }

    /** The HILLS of one NEWS, of bits of pairs. */
    private static int rowOf(int pairs, int news) {
        return pairs >> MAX_HILLS * news & HILL_BITS;
    }

    /** The HILLS that hear a HILL (itself, too), of what Text.heardOn tells. */
    private static int hearersOf(long heard, int hill) {
        return (int) (heard >> MAX_HILLS * hill) & HILL_BITS;
    }

    private static final class Tape {
        private final byte[] bytes = new byte[MAX_BYTES];
        private int length = 0;

        /** Four bytes, the highest first; the caller has looked whether there is room. */
        private void add(int word) {
            for (int shift = 24; shift >= 0 && length < MAX_BYTES; shift -= 8) {
                bytes[length] = (byte) (word >> shift);
                length++;
            }
        }

        private int byteAt(int at) {
            return at >= 0 && at < length && at < MAX_BYTES ? bytes[at] & 255 : NONE;
        }
    }

    /** The first 401 TOKENS of a tape; behind its end, and behind what is none, whatever comes is not looked at. */
    private static final class Tokens {
        private final int[] kinds = new int[SEEN_TOKENS];
        private final int[] places = new int[SEEN_TOKENS];
        private final long[] values = new long[SEEN_TOKENS];

        private void split(Tape tape) {
            int at = 0;
            for (int i = 0; i < SEEN_TOKENS; i++) {
                at = pastBlanks(tape, at);
                places[i] = at;
                at = keep(tape, at, i);
            }
        }

        private static int pastBlanks(Tape tape, int at) {
            int end = at;
            while (end < tape.length && isBlank(tape.byteAt(end))) {
                end++;
            }
            return end;
        }

        private static boolean isBlank(int c) {
            return c == 9 || c == 10 || c == 13 || c == 32;
        }

        /** Keeps the TOKEN that begins here as the i-th; tells where the next may begin. */
        private int keep(Tape tape, int at, int i) {
            int first = tape.byteAt(at);
            values[i] = 0;
            if (first == NONE) {
                kinds[i] = END;
                return at;
            }
            if (isLetter(first)) {
                return keepLetters(tape, at, i);
            }
            if (isDigit(first)) {
                return keepDigits(tape, at, i);
            }
            kinds[i] = SIGNS.indexOf((char) first) >= 0 ? first : BAD;
            return at + 1;
        }

        private static boolean isLetter(int c) {
            return c >= 'a' && c <= 'z';
        }

        private static boolean isDigit(int c) {
            return c >= '0' && c <= '9';
        }

        /** A NAME's value is its letters, five bits each: alike only if the NAMES are. */
        private int keepLetters(Tape tape, int at, int i) {
            int end = at;
            while (end < tape.length && isLetter(tape.byteAt(end))) {
                values[i] = values[i] * 32 + (tape.byteAt(end) - 'a' + 1);
                end++;
            }
            kinds[i] = end - at > WORD_CELL ? BAD : wordOrName(tape, at, end);
            return end;
        }

        private static int wordOrName(Tape tape, int at, int end) {
            for (int word = 0; word < ALL_WORDS; word++) {
                boolean same = true;
                for (int i = 0; i < WORD_CELL && same; i++) {
                    int letter = at + i < end ? tape.byteAt(at + i) : ' ';
                    same = WORDS.charAt(WORD_CELL * word + i) == letter;
                }
                if (same) {
                    return WORD + word;
                }
            }
            return NAME;
        }

        private int keepDigits(Tape tape, int at, int i) {
            int end = at;
            while (end < tape.length && isDigit(tape.byteAt(end))) {
                values[i] = values[i] * 10 + (tape.byteAt(end) - '0');
                end++;
            }
            kinds[i] = end - at > 4 ? BAD : INT;
            return end;
        }
    }

    /** Reads a tape into a Text and finds its FAULT. */
    private static final class Reader {
        private final Tokens tokens = new Tokens();
        private final long[] hillNames = new long[MAX_HILLS];
        private final long[] newsNames = new long[MAX_NEWS];
        private Text into;
        private int at = 0;
        private int fault = 0;
        private int place = NONE;
        private int meaningFault = 0;
        private int meaningPlace = NONE;

        private Reader(Text first) {
            into = first;
        }

        /** SYNTAX and ROOM end the reading; a FAULT of the meaning counts only if neither comes behind it. */
        private void parse(Tape tape, Text target) {
            target.clear();
            tokens.split(tape);
            into = target;
            at = 0;
            fault = 0;
            place = NONE;
            meaningFault = 0;
            meaningPlace = NONE;
            for (int i = 0; i < SEEN_TOKENS && fault == 0 && kind() != END; i++) {
                parseTell();
            }
            if (fault == 0 && meaningFault != 0) {
                fault = meaningFault;
                place = meaningPlace;
            }
        }

        /** BAD behind a FAULT, so that nothing goes on. */
        private int kind() {
            return fault == 0 && at < SEEN_TOKENS ? tokens.kinds[at] : BAD;
        }

        private void fail(int number) {
            if (fault == 0 && at < SEEN_TOKENS) {
                fault = number;
                place = tokens.places[at];
            }
        }

        private void mean(int number, int tokenAt) {
            if (meaningFault == 0 && tokenAt < SEEN_TOKENS) {
                meaningFault = number;
                meaningPlace = tokens.places[tokenAt];
            }
        }

        /** The TOKEN's value, 0 if it is another one than is wanted here. */
        private long take(int wanted) {
            if (fault != 0 || at >= SEEN_TOKENS) {
                return 0;
            }
            int token = at;
            if (tokens.kinds[token] != wanted || token >= MAX_TOKENS) {
                fault = tokens.kinds[token] != wanted ? SYNTAX_FAULT : ROOM_FAULT;
                place = tokens.places[token];
                return 0;
            }
            at = token + 1;
            return tokens.values[token];
        }

        private int takeNumber(int least, int most) {
            int value = (int) take(INT);
            if (fault == 0 && (value < least || value > most)) {
                mean(WRONG_FAULT, at - 1);
            }
            return value;
        }

        private long takeNewName() {
            long name = take(NAME);
            boolean twice = indexOf(name, hillNames, into.hills) != NONE || indexOf(name, newsNames, into.newsTold) != NONE;
            if (fault == 0 && twice) {
                mean(TWICE_FAULT, at - 1);
            }
            return name;
        }

        /** 0 if there is none, which is a FAULT: the Text is not used then. */
        private int takeOneOf(long[] names, int size) {
            int found = indexOf(take(NAME), names, size);
            if (fault == 0 && found == NONE) {
                mean(NAME_FAULT, at - 1);
            }
            return Math.max(found, 0);
        }

        private static int indexOf(long name, long[] names, int size) {
            for (int i = 0; i < size && i < names.length; i++) {
                if (names[i] == name) {
                    return i;
                }
            }
            return NONE;
        }

        private void parseTell() {
            switch (kind()) {
                case W_HILL:
                    parseHill();
                    break;
                case W_NEWS:
                    parseNews();
                    break;
                case W_HEARS:
                    parseLaw();
                    break;
                case W_WIND:
                    parseRow(W_WIND, into.wind);
                    break;
                case W_FOG:
                    parseRow(W_FOG, into.fog);
                    break;
                case W_ORDER:
                    parseOrder();
                    break;
                case W_SLEEPER:
                    parseSleeper();
                    break;
                default:
                    fail(SYNTAX_FAULT);
                    break;
            }
            take(';');
        }

        private void parseHill() {
            int hill = into.hills;
            if (hill >= MAX_HILLS) {
                fail(ROOM_FAULT);
                return;
            }
            take(W_HILL);
            hillNames[hill] = takeNewName();
            into.x[hill] = takeNumber(0, MAX_NUMBER);
            into.y[hill] = takeNumber(0, MAX_NUMBER);
            into.hills = hill + 1;
        }

        private void parseNews() {
            int news = into.newsTold;
            if (news >= MAX_NEWS) {
                fail(ROOM_FAULT);
                return;
            }
            take(W_NEWS);
            newsNames[news] = takeNewName();
            take(W_AT);
            into.home[news] = takeOneOf(hillNames, into.hills);
            into.newsTold = news + 1;
        }

        private void parseRow(int word, Row row) {
            take(word);
            row.size = 0;
            for (int i = 0; i <= MAX_ROW && kind() == INT; i++) {
                if (i == MAX_ROW) {
                    fail(ROOM_FAULT);
                } else {
                    row.numbers[i] = takeNumber(0, MAX_NUMBER);
                    row.size = i + 1;
                }
            }
        }

        private void parseOrder() {
            take(W_ORDER);
            int order = kind();
            if (order < W_FREE || order > W_OTHER) {
                fail(SYNTAX_FAULT);
                return;
            }
            take(order);
            into.order = order - W_FREE;
        }

        private void parseSleeper() {
            int sleeper = into.sleepers;
            if (sleeper >= MAX_SLEEPERS) {
                fail(ROOM_FAULT);
                return;
            }
            take(W_SLEEPER);
            into.sleeperHill[sleeper] = takeOneOf(hillNames, into.hills);
            into.sleeperNews[sleeper] = takeOneOf(newsNames, into.newsTold);
            into.sleeperDays[sleeper] = takeNumber(1, MAX_SLEEP);
            into.sleepers = sleeper + 1;
        }

        private void parseLaw() {
            take(W_HEARS);
            take('=');
            into.law.length = 0;
            for (int i = 0; i <= MAX_IFS && kind() == W_IF; i++) {
                if (i == MAX_IFS) {
                    fail(ROOM_FAULT);
                }
                take(W_IF);
                parseSum(0);
                take('<');
                parseSum(0);
                into.law.add(-'<');
                int aim = into.law.add(0);
                take(W_THEN);
                parseSum(0);
                take(W_ELSE);
                into.law.add(-';');
                into.law.aimHere(aim);
            }
            parseSum(0);
            into.law.add(-';');
        }

        /** An E; nested: within how many ( it stands. */
        private void parseSum(int nested) {
            parseProduct(nested);
            for (int i = 0; i < SEEN_TOKENS && (kind() == '+' || kind() == '-'); i++) {
                int sign = kind();
                take(sign);
                parseProduct(nested);
                into.law.add(-sign);
            }
        }

        private void parseProduct(int nested) {
            parseUnit(nested);
            for (int i = 0; i < SEEN_TOKENS && (kind() == '*' || kind() == '/'); i++) {
                int sign = kind();
                take(sign);
                parseUnit(nested);
                into.law.add(-sign);
            }
        }

        private void parseUnit(int nested) {
            int kind = kind();
            if (kind == INT) {
                into.law.add((int) take(INT));
            } else if (kind >= W_FAR && kind <= W_TO) {
                take(kind);
                into.law.add(-kind);
            } else if (kind != '(') {
                fail(SYNTAX_FAULT);
            } else if (nested >= MAX_NESTED) {
                fail(ROOM_FAULT);
            } else {
                take('(');
                parseSum(nested + 1);
                take(')');
            }
        }
    }

    /** A law as cells, operands ahead of their sign: a number from 0 on is itself, a VAR or SIGN below 0 its kind. */
    private static final class Law {
        private final int[] cells = new int[SEEN_TOKENS];
        private final int[] stack = new int[STACK];
        private int length = 0;
        private int top = 0;

        private void setUsual() {
            length = 0;
            add(10);
            add(-W_FAR);
            add(-'-');
            add(-';');
        }

        /** Where the cell stands. No law has more cells than the 400 TOKENS it was told with. */
        private int add(int cell) {
            if (length >= SEEN_TOKENS) {
                return length;
            }
            cells[length] = cell;
            length++;
            return length - 1;
        }

        private void aimHere(int hole) {
            if (hole >= 0 && hole < SEEN_TOKENS) {
                cells[hole] = length;
            }
        }

        private int value(int[] vars) {
            top = 0;
            int at = 0;
            // An aim lies ahead, so no cell is looked at more than once.
            for (int step = 0; step < length && at >= 0 && at < length && at < SEEN_TOKENS; step++) {
                int cell = cells[at];
                at++;
                if (cell >= 0) {
                    push(cell);
                } else if (cell <= -W_FAR && cell >= -W_TO) {
                    push(vars[-cell - W_FAR]);
                } else if (cell == -';') {
                    return pop();
                } else {
                    int right = pop();
                    int left = pop();
                    if (cell == -'<') {
                        at = left < right || at >= SEEN_TOKENS ? at + 1 : cells[at];
                    } else if (cell == -'/' && right == 0) {
                        return 0;
                    } else {
                        push(joined(-cell, left, right));
                    }
                }
            }
            return 0;
        }

        private static int joined(int sign, int left, int right) {
            switch (sign) {
                case '+':
                    return left + right;
                case '-':
                    return left - right;
                case '*':
                    return left * right;
                default:
                    return right == 0 ? 0 : left / right;
            }
        }

        private void push(int value) {
            if (top >= 0 && top < STACK) {
                stack[top] = value;
                top++;
            }
        }

        private int pop() {
            if (top <= 0 || top > STACK) {
                return 0;
            }
            top--;
            return stack[top];
        }
    }

    /** Numbers day by day, again and again. */
    private static final class Row {
        private final int[] numbers = new int[MAX_ROW];
        private int size = 0;

        private int on(int day) {
            return size > 0 && size <= MAX_ROW && day >= 0 ? numbers[day % size] : 0;
        }
    }

    /** What a text told. */
    private static final class Text {
        private int hills = 0;
        private final int[] x = new int[MAX_HILLS];
        private final int[] y = new int[MAX_HILLS];
        private int newsTold = 0;
        private final int[] home = new int[MAX_NEWS];
        private final Law law = new Law();
        private final Row wind = new Row();
        private final Row fog = new Row();
        private int order = TOPIC;
        private int sleepers = 0;
        private final int[] sleeperHill = new int[MAX_SLEEPERS];
        private final int[] sleeperNews = new int[MAX_SLEEPERS];
        private final int[] sleeperDays = new int[MAX_SLEEPERS];
        private final int[] vars = new int[VARS];
        private final long[] heardRows = new long[DAY_CELLS];
        private final int[] heardDays = new int[DAY_CELLS];

        private void clear() {
            hills = 0;
            newsTold = 0;
            law.setUsual();
            wind.size = 0;
            fog.size = 0;
            order = TOPIC;
            sleepers = 0;
            Arrays.fill(heardDays, NONE);
        }

        private int allHills() {
            return (1 << hills) - 1;
        }

        private boolean lawTells(int from, int to, int day) {
            vars[0] = Math.abs(x[from] - x[to]) + Math.abs(y[from] - y[to]);
            vars[1] = wind.on(day);
            vars[2] = fog.on(day);
            vars[3] = day;
            vars[4] = from;
            vars[5] = to;
            return law.value(vars) > 0;
        }

        /** Who hears whom on a day, six bits for each HILL; kept, since forecasts ask for the same days again. */
        private long heardOn(int day) {
            int cell = day & (DAY_CELLS - 1);
            if (heardDays[cell] != day) {
                heardDays[cell] = day;
                heardRows[cell] = 0;
                for (int from = 0; from < hills; from++) {
                    for (int to = 0; to < hills; to++) {
                        if (from == to || lawTells(from, to, day)) {
                            heardRows[cell] |= 1L << (MAX_HILLS * from + to);
                        }
                    }
                }
            }
            return heardRows[cell];
        }
    }

    /** All that drums and nights change. */
    private static final class World {
        private int day = 0;
        private int known = 0;
        private int deniedFirst = 0;
        private int saidToday = 0;
        private int deniedToday = 0;
        private int saidEver = 0;
        private int deniedEver = 0;
        private int today = 0;
        private int inAll = 0;
        private final int[] since = new int[PAIRS];
        private final int[] from = new int[PAIRS];
        private final int[] drumsOfDay = new int[MAX_DRUMS];

        private void begin(Text text) {
            day = 0;
            known = 0;
            deniedFirst = 0;
            saidToday = 0;
            deniedToday = 0;
            saidEver = 0;
            deniedEver = 0;
            today = 0;
            inAll = 0;
            for (int news = 0; news < text.newsTold; news++) {
                beginAt(text.home[news], news);
            }
        }

        /** In the beginning the NEWS is KNOWN at that HILL alone. */
        private void beginAt(int hill, int news) {
            int pair = pairOf(hill, news);
            known = known & ~(HILL_BITS << MAX_HILLS * news) | 1 << pair;
            since[pair] = 0;
            from[pair] = hill;
        }

        private void copy(World other) {
            day = other.day;
            known = other.known;
            deniedFirst = other.deniedFirst;
            saidToday = other.saidToday;
            deniedToday = other.deniedToday;
            saidEver = other.saidEver;
            deniedEver = other.deniedEver;
            today = other.today;
            inAll = other.inAll;
            System.arraycopy(other.since, 0, since, 0, PAIRS);
            System.arraycopy(other.from, 0, from, 0, PAIRS);
            System.arraycopy(other.drumsOfDay, 0, drumsOfDay, 0, MAX_DRUMS);
        }

        private boolean knows(int hill, int news) {
            return (known >> pairOf(hill, news) & 1) != 0;
        }

        private int clashing() {
            return saidEver & deniedEver;
        }

        private boolean isAble(int hill, int news) {
            return today < MAX_DRUMS && knows(hill, news);
        }

        private boolean isAnswer(int order, int hill, int news, boolean denied) {
            int pair = 1 << pairOf(hill, news);
            switch (order) {
                case FREE:
                    return false;
                case TOPIC:
                    return ((saidToday | deniedToday) & pair) != 0;
                case ANY:
                    return ((saidToday | deniedToday) & ONE_HILL_ALL_NEWS << hill) != 0;
                default:
                    return ((denied ? saidToday : deniedToday) & pair) != 0;
            }
        }

        private void drumByDay(int hill, int news, boolean denied, int heard) {
            if (today < 0 || today >= MAX_DRUMS) {
                return;
            }
            drumsOfDay[today] = heard << 7 | (denied ? 1 : 0) << 6 | news << 3 | hill;
            today++;
            int others = (heard & ~(1 << hill)) << MAX_HILLS * news;
            if (denied) {
                deniedToday |= others;
            } else {
                saidToday |= others;
            }
            sound(hill, news, denied, heard);
        }

        /** What a DRUM does, by day or by night. */
        private void sound(int hill, int news, boolean denied, int heard) {
            int others = (heard & ~(1 << hill)) << MAX_HILLS * news;
            int fresh = others & ~known;
            known |= others;
            inAll++;
            if (denied) {
                deniedEver |= others;
                deniedFirst |= fresh;
            } else {
                saidEver |= others;
            }
            if (fresh != 0) {
                noteOrigin(fresh, hill);
            }
        }

        private void noteOrigin(int fresh, int hill) {
            for (int pair = 0; pair < PAIRS; pair++) {
                if ((fresh >> pair & 1) != 0) {
                    since[pair] = day;
                    from[pair] = hill;
                }
            }
        }

        /** A day by the RULE, on which one HILL, if it is one, never drums. */
        private void passDay(Text text, int order, int silent) {
            long heard = text.heardOn(day);
            for (int hill = 0; hill < text.hills; hill++) {
                if (hill == silent) {
                    continue;
                }
                for (int news = 0; news < text.newsTold; news++) {
                    if (isAble(hill, news) && !isAnswer(order, hill, news, false)) {
                        drumByDay(hill, news, false, hearersOf(heard, hill));
                    }
                }
            }
            passNight(text, silent);
        }

        private void passNight(Text text, int silent) {
            for (int i = 0; i < text.sleepers && i < MAX_SLEEPERS; i++) {
                int hill = text.sleeperHill[i];
                int news = text.sleeperNews[i];
                int days = text.sleeperDays[i];
                if (hill != silent && days > 0 && day % days == 0 && knows(hill, news)) {
                    sound(hill, news, false, hearersOf(text.heardOn(day), hill));
                }
            }
            day++;
            today = 0;
            saidToday = 0;
            deniedToday = 0;
        }
    }

    /** The worlds ahead of the last 40 things done. */
    private static final class Past {
        private final World[] worlds = new World[MAX_UNDONE];
        private int next = 0;
        private int size = 0;

        private Past() {
            for (int i = 0; i < MAX_UNDONE; i++) {
                worlds[i] = new World();
            }
        }

        private void push(World now) {
            if (next < 0 || next >= MAX_UNDONE || worlds[next] == null) {
                return;
            }
            worlds[next].copy(now);
            next = (next + 1) % MAX_UNDONE;
            size = Math.min(size + 1, MAX_UNDONE);
        }

        private boolean pop(World now) {
            int last = (next + MAX_UNDONE - 1) % MAX_UNDONE;
            if (size == 0 || last < 0 || worlds[last] == null) {
                return false;
            }
            now.copy(worlds[last]);
            next = last;
            size--;
            return true;
        }
    }

    private static final class Told {
        private final int[] hills = new int[MAX_TOLD];
        private final int[] newses = new int[MAX_TOLD];
        private final int[] days = new int[MAX_TOLD];
        private int size = 0;

        private int add(int hill, int news, int day) {
            if (size < 0 || size >= MAX_TOLD) {
                return NONE;
            }
            hills[size] = hill;
            newses[size] = news;
            days[size] = day;
            size++;
            return size - 1;
        }

        /** How many days from day 0 on show whether the first k of a NEWS are so. */
        private int daysNeeded(int news, int k) {
            int needed = 0;
            for (int i = 0; i < k && i < MAX_TOLD; i++) {
                if (newses[i] == news) {
                    needed = Math.max(needed, days[i] + 1);
                }
            }
            return needed;
        }

        private boolean isSo(World world, int news, int k) {
            for (int i = 0; i < k && i < MAX_TOLD; i++) {
                if (newses[i] == news) {
                    int pair = pairOf(hills[i], news);
                    if (!world.knows(hills[i], news) || world.since[pair] != days[i]) {
                        return false;
                    }
                }
            }
            return true;
        }
    }

    /** PLANS: which sets of HILLS can KNOW a NEWS behind each day, and by how many DRUMS. */
    private static final class Plans {
        private final int[] heardBy = new int[HILL_SETS];
        private final boolean[] lawful = new boolean[HILL_SETS];
        private int[] fewest = new int[HILL_SETS];
        private int[] fewestNext = new int[HILL_SETS];

        /** For each set of HILLS: who hears one of them, and whether there is an order by which each may SAY it. */
        private void setDay(Text text, int day) {
            long heard = text.heardOn(day);
            boolean noAnswers = text.order != TOPIC && text.order != ANY;
            int sets = Math.min(1 << text.hills, HILL_SETS);
            heardBy[0] = 0;
            lawful[0] = true;
            for (int set = 1; set < sets; set++) {
                heardBy[set] = 0;
                lawful[set] = noAnswers;
                for (int hill = 0; hill < text.hills; hill++) {
                    if ((set >> hill & 1) != 0) {
                        int ahead = set & ~(1 << hill);
                        heardBy[set] = heardBy[ahead] | hearersOf(heard, hill);
                        lawful[set] |= lawful[ahead] && (heardBy[ahead] >> hill & 1) == 0;
                    }
                }
            }
        }

        private boolean canSay(int set, int known) {
            return (set & ~known) == 0 && lawful[set];
        }

        private int fewestDays(Text text, World now, int news, int wanted) {
            int sets = Math.min(1 << text.hills, HILL_SETS);
            long reached = 1L << rowOf(now.known, news);
            for (int days = 0; days < PLAN_DAYS; days++) {
                if (isReached(reached, wanted, sets)) {
                    return days;
                }
                setDay(text, now.day + days + 1);
                reached = reachedNext(reached, sets);
            }
            return isReached(reached, wanted, sets) ? PLAN_DAYS : NOT;
        }

        private static boolean isReached(long reached, int wanted, int sets) {
            for (int known = 0; known < sets; known++) {
                if ((reached >> known & 1) != 0 && (known & wanted) == wanted) {
                    return true;
                }
            }
            return false;
        }

        private long reachedNext(long reached, int sets) {
            long next = reached;
            for (int known = 0; known < sets; known++) {
                if ((reached >> known & 1) != 0) {
                    for (int set = 1; set <= known; set++) {
                        if (canSay(set, known)) {
                            next |= 1L << (known | heardBy[set]);
                        }
                    }
                }
            }
            return next;
        }

        private int fewestDrums(Text text, World now, int news) {
            int all = text.allHills();
            Arrays.fill(fewest, FAR_TOO_MANY);
            fewest[rowOf(now.known, news)] = 0;
            for (int days = 1; days <= PLAN_DAYS && fewest[all] != 0; days++) {
                setDay(text, now.day + days);
                spreadFewest(all);
            }
            return fewest[all] < FAR_TOO_MANY ? fewest[all] : NOT;
        }

        private void spreadFewest(int all) {
            System.arraycopy(fewest, 0, fewestNext, 0, HILL_SETS);
            for (int known = 0; known <= all && known < HILL_SETS; known++) {
                for (int set = 1; set <= known && fewest[known] < FAR_TOO_MANY; set++) {
                    if (canSay(set, known)) {
                        int then = known | heardBy[set];
                        fewestNext[then] = Math.min(fewestNext[then], fewest[known] + Integer.bitCount(set));
                    }
                }
            }
            int[] old = fewest;
            fewest = fewestNext;
            fewestNext = old;
        }
    }

    /** LOOPHOLE: DRUMS of today that bring a HILL a lawful word of another's on what it SAID. */
    private static final class Loop {
        private final int[] found = new int[LOOP_DRUMS];
        private int length = 0;
        private final World behindFirst = new World();
        private final World behindSecond = new World();

        private void seek(Text text, World now, int a, int b, int news) {
            length = 0;
            long heard = text.heardOn(now.day);
            boolean listens = (hearersOf(heard, b) >> a & 1) != 0;
            if (!listens || !now.isAble(a, news) || now.isAnswer(text.order, a, news, false)) {
                return;
            }
            behindFirst.copy(now);
            behindFirst.drumByDay(a, news, false, hearersOf(heard, a));
            found[0] = codeOf(a, news, false);
            found[1] = lastDrum(text, behindFirst, b, news);
            if (found[1] != NONE) {
                length = 2;
                return;
            }
            seekSecond(text, b, news, heard);
        }

        private void seekSecond(Text text, int b, int last, long heard) {
            for (int hill = 0; hill < text.hills && length == 0; hill++) {
                for (int news = 0; news < text.newsTold && length == 0; news++) {
                    for (int sign = 0; sign < 2 && length == 0; sign++) {
                        boolean denied = sign == 1;
                        if (behindFirst.isAble(hill, news) && !behindFirst.isAnswer(text.order, hill, news, denied)) {
                            behindSecond.copy(behindFirst);
                            behindSecond.drumByDay(hill, news, denied, hearersOf(heard, hill));
                            found[1] = codeOf(hill, news, denied);
                            found[2] = lastDrum(text, behindSecond, b, last);
                            length = found[2] == NONE ? 0 : 3;
                        }
                    }
                }
            }
        }

        private static int lastDrum(Text text, World world, int b, int news) {
            if (!world.isAble(b, news)) {
                return NONE;
            }
            if (!world.isAnswer(text.order, b, news, false)) {
                return codeOf(b, news, false);
            }
            return world.isAnswer(text.order, b, news, true) ? NONE : codeOf(b, news, true);
        }

        private static int codeOf(int hill, int news, boolean denied) {
            return 100 * hill + 10 * news + (denied ? 1 : 0);
        }
    }
}
