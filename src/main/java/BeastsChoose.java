/**
 * A zoo in which the beasts ask for the visitors.
 *
 * A zoo is told as a text on a tape; hours go by in it, and it answers what happened,
 * what will happen, and how things could best be done. No call ever throws: what can't be
 * is answered with NONE or false, and counted in status().
 */
public final class BeastsChoose {
    public static final int NONE = -1;

    private static final int BEAST_ROOM = 6;
    private static final int GUEST_ROOM = 8;
    private static final int TRAITS = 3;
    private static final int MOST_TRAIT = 9;
    private static final int TAPE_ROOM = 1600;
    private static final int FEED_BYTES = 20;
    private static final int ROW_ROOM = 60;
    private static final int UNDO_ROOM = 20;
    private static final int TOLD_ROOM = 16;
    private static final int MOST_AHEAD = 100;
    private static final int MOST_HOURS = 200;
    private static final int DAY_HOURS = 24;
    private static final int LAST_DAY = 999;
    private static final int LAST_MOMENT = LAST_DAY * DAY_HOURS + DAY_HOURS - 1;
    private static final int MOST_FEES = 9999;
    private static final int MOST_SEEN = 99;
    private static final int MOST_USHERS = 6;

    private static final int REFUSED_TAPE = 0;
    private static final int REFUSED_ZOO = 1;
    private static final int REFUSED_HOURS = 2;
    private static final int REFUSED_CHANGE = 3;
    private static final int REFUSED_UNDO = 4;
    private static final int REFUSED_OTHER = 5;

    private final Parser parser = new Parser();
    private final Tape tape = parser.tape;
    private final State now = new State();
    private final State ahead = new State();
    private final State[] past = new State[UNDO_ROOM];
    private final Keeper keeper = new Keeper();
    private final Bringing bringing = new Bringing();
    private final Guesses guesses = new Guesses();
    private final Ring ring = new Ring();
    private final Walk walking = new Walk();
    private final Image picture = new Image();
    private final int[] refused = new int[6];
    private Zoo zoo = new Zoo();
    /** A zoo is read into this one, so that a fault leaves the other as it was. */
    private Zoo draft = new Zoo();
    private int oldestPast;
    private int pastCount;
    private int seed = 1;

    public BeastsChoose() {
        for (int i = 0; i < UNDO_ROOM; i++) {
            past[i] = new State();
        }
    }

    public int feed(int a, int b, int c, int d, int e) {
        if (tape.length > TAPE_ROOM - FEED_BYTES) {
            return refuse(REFUSED_TAPE);
        }
        tape.put(a);
        tape.put(b);
        tape.put(c);
        tape.put(d);
        tape.put(e);
        return tape.length;
    }

    public boolean end(int n) {
        if (n < 0 || n > tape.length) {
            refuse(REFUSED_TAPE);
            return false;
        }
        tape.length = n;
        return true;
    }

    public int zoo() {
        int statements = parser.parse(draft);
        tape.length = 0;
        if (statements == NONE) {
            return refuse(REFUSED_ZOO);
        }
        Zoo old = zoo;
        zoo = draft;
        draft = old;
        now.begin(zoo);
        guesses.toldRows = 0;
        pastCount = 0;
        return statements;
    }

    public int fault(int what) {
        switch (what) {
            case 0: return parser.fault;
            case 1: return parser.faultPlace;
            default: return NONE;
        }
    }

    public int has(int what) {
        switch (what) {
            case 0: return zoo.beasts;
            case 1: return zoo.guests;
            case 2: return now.day;
            case 3: return now.hour;
            case 4: return zoo.ushers;
            case 5: return now.fees;
            case 6: return guestsThere();
            case 7: return guestsKept();
            case 8: return now.rowCount;
            case 9: return pastCount;
            case 10: return seed;
            case 11: return guesses.toldRows;
            default: return NONE;
        }
    }

    public int letter(int kind, int which, int k) {
        if (k < 0 || k >= Tape.MOST_LETTERS) {
            return NONE;
        }
        if (kind == 0 && zoo.isBeast(which)) {
            return Tape.letterOf(zoo.beastName[which], k);
        }
        if (kind == 1 && zoo.isGuest(which)) {
            return Tape.letterOf(zoo.guestName[which], k);
        }
        return NONE;
    }

    public int beast(int beast, int what) {
        if (!zoo.isBeast(beast)) {
            return NONE;
        }
        switch (what) {
            case 0: return zoo.wakes[beast];
            case 1: return zoo.sleeps[beast];
            case 2: return zoo.place[beast];
            case 3:
            case 4:
            case 5: return now.tastes[beast * TRAITS + what - 3];
            case 6: return zoo.isAwake(beast, now.hour) ? 1 : 0;
            case 7: return firstKeptBy(beast);
            default: return NONE;
        }
    }

    public int guest(int guest, int what) {
        if (!zoo.isGuest(guest)) {
            return NONE;
        }
        switch (what) {
            case 0:
            case 1:
            case 2: return now.traits[guest * TRAITS + what];
            case 3: return zoo.comes[guest];
            case 4: return zoo.goes[guest];
            case 5: return zoo.fears[guest];
            case 6: return now.sentBack[guest];
            case 7: return now.keptBy[guest];
            default: return NONE;
        }
    }

    public int between(int beast, int guest, int what) {
        if (!zoo.isBeast(beast) || !zoo.isGuest(guest)) {
            return NONE;
        }
        int pair = beast * GUEST_ROOM + guest;
        switch (what) {
            case 0: return now.suits(beast, guest);
            case 1: return keeper.liking(zoo, now, beast, guest);
            case 2: return now.saw[pair];
            case 3: return now.sawToday[pair];
            default: return NONE;
        }
    }

    // ---- ahead

    public int asks(int beast, int n) {
        if (!zoo.isBeast(beast) || n < 0 || n >= hoursToSee()) {
            return NONE;
        }
        ahead.copyFrom(now);
        for (int i = 0; i < n; i++) {
            keeper.playHour(zoo, ahead);
        }
        keeper.weigh(zoo, ahead);
        keeper.choose(zoo, ahead, zoo.beasts);
        return keeper.asked[beast];
    }

    public int alone(int what) {
        if (what != 0 && what != 1) {
            return NONE;
        }
        ahead.copyFrom(now);
        int most = hoursToSee();
        for (int i = 0; i < most; i++) {
            keeper.weigh(zoo, ahead);
            keeper.choose(zoo, ahead, zoo.beasts);
            int lonely = keeper.firstLonely(zoo, ahead.hour);
            if (lonely != NONE) {
                return what == 0 ? i : lonely;
            }
            keeper.settle(zoo, ahead);
            ahead.passHour();
        }
        return NONE;
    }

    public int bring(int beast) {
        if (beast != NONE && !zoo.isBeast(beast)) {
            return NONE;
        }
        keeper.weigh(zoo, now);
        bringing.find(zoo, keeper.likings);
        return beast == NONE ? bringing.together : bringing.guestFor[beast];
    }

    public int dress(int guest, int beast, int what) {
        if (!zoo.isGuest(guest) || !zoo.isBeast(beast) || what < 0 || what > TRAITS) {
            return NONE;
        }
        ahead.copyFrom(now);
        keeper.findDress(zoo, ahead, guest, beast);
        return keeper.dressed[what];
    }

    // ---- tastes, rings, walks, registers

    public int tell() {
        boolean good = tape.holdsPairs(zoo.guests, zoo.guests) && tape.pairsUnlike();
        if (good) {
            guesses.hear(tape);
        }
        tape.length = 0;
        return good ? guesses.toldRows : refuse(REFUSED_OTHER);
    }

    public int tastes(int what) {
        if (what < 0 || what > 2 * TRAITS) {
            return NONE;
        }
        guesses.gather(now.traits);
        if (what == 0) {
            return guesses.leftCount;
        }
        return what <= TRAITS ? guesses.least(what - 1) : guesses.greatest(what - 1 - TRAITS);
    }

    public int send(int what) {
        if (what < 0 || what > 2) {
            return NONE;
        }
        guesses.gather(now.traits);
        guesses.findPair(zoo.guests, now.traits);
        return guesses.pair[what];
    }

    public int round(int beast, int what) {
        if (!zoo.isBeast(beast)) {
            return NONE;
        }
        keeper.weigh(zoo, now);
        ring.find(zoo, now, keeper);
        switch (what) {
            case 0: return ring.gets[beast];
            case 1: return ring.inRound[beast];
            case 2: return ring.holds[beast];
            default: return NONE;
        }
    }

    public int walk(int beasts, int ushers) {
        if (beasts < 0 || beasts >= 1 << zoo.beasts || ushers < 1 || ushers > MOST_USHERS) {
            return NONE;
        }
        return walking.least(zoo.place, beasts, ushers);
    }

    public int torn() {
        boolean good = tape.holdsPairs(zoo.beasts, zoo.guests);
        int hours = good ? hoursUntilCome() : refuse(REFUSED_OTHER);
        tape.length = 0;
        return hours;
    }

    // ---- acts

    public int hours(int n) {
        if (!canGoBy(n)) {
            return refuse(REFUSED_HOURS);
        }
        remember();
        int askings = 0;
        for (int i = 0; i < n; i++) {
            askings += keeper.playHour(zoo, now);
        }
        return askings;
    }

    public int chance(int n) {
        if (!canGoBy(n)) {
            return refuse(REFUSED_HOURS);
        }
        remember();
        int rained = 0;
        for (int i = 0; i < n; i++) {
            if (drawOfHundred() < zoo.rain) {
                rained++;
                now.passHour();
            } else {
                keeper.playHour(zoo, now);
            }
        }
        return rained;
    }

    public boolean change(int guest, int looks, int smell, int talk) {
        if (!zoo.isGuest(guest) || !isNewTriple(now.traits, guest * TRAITS, looks, smell, talk)) {
            refuse(REFUSED_CHANGE);
            return false;
        }
        remember();
        setTriple(now.traits, guest * TRAITS, looks, smell, talk);
        return true;
    }

    public boolean train(int beast, int looks, int smell, int talk) {
        if (!zoo.isBeast(beast) || !isNewTriple(now.tastes, beast * TRAITS, looks, smell, talk)) {
            refuse(REFUSED_CHANGE);
            return false;
        }
        remember();
        setTriple(now.tastes, beast * TRAITS, looks, smell, talk);
        return true;
    }

    public boolean swap(int first, int second) {
        if (!zoo.isBeast(first) || !zoo.isBeast(second) || first == second) {
            refuse(REFUSED_CHANGE);
            return false;
        }
        remember();
        now.swapKnowledge(first, second);
        return true;
    }

    public boolean undo() {
        if (pastCount <= 0) {
            refuse(REFUSED_UNDO);
            return false;
        }
        pastCount--;
        now.copyFrom(past[(oldestPast + pastCount) % UNDO_ROOM]);
        return true;
    }

    public boolean seed(int seed) {
        if (seed < 0) {
            refuse(REFUSED_OTHER);
            return false;
        }
        this.seed = seed;
        return true;
    }

    public int kept(int k, int what) {
        if (k < 0 || k >= now.rowCount) {
            return NONE;
        }
        return now.rowPart(k, what);
    }

    // ---- images, refusals

    public int image() {
        picture.write(zoo, now);
        return picture.length;
    }

    public int octet(int k) {
        return k >= 0 && k < picture.length ? picture.bytes[k] : NONE;
    }

    public boolean on() {
        boolean good = picture.read(tape, zoo, ahead);
        tape.length = 0;
        if (!good) {
            refuse(REFUSED_OTHER);
            return false;
        }
        now.copyFrom(ahead);
        pastCount = 0;
        return true;
    }

    public int status(int what) {
        return what >= 0 && what < refused.length ? refused[what] : NONE;
    }

    // ---- what the calls above share

    private int refuse(int which) {
        refused[which]++;
        return NONE;
    }

    private int guestsThere() {
        int count = 0;
        for (int g = 0; g < zoo.guests; g++) {
            if (zoo.isThere(g, now.hour)) {
                count++;
            }
        }
        return count;
    }

    private int guestsKept() {
        int count = 0;
        for (int g = 0; g < zoo.guests; g++) {
            if (now.keptBy[g] != NONE) {
                count++;
            }
        }
        return count;
    }

    private int firstKeptBy(int beast) {
        for (int g = 0; g < zoo.guests; g++) {
            if (now.keptBy[g] == beast) {
                return g;
            }
        }
        return NONE;
    }

    /** How many hours can be looked at from now on, this one counted. */
    private int hoursToSee() {
        return Math.min(MOST_AHEAD, LAST_MOMENT - now.moment() + 1);
    }

    private boolean canGoBy(int n) {
        return n >= 1 && n <= MOST_HOURS && n <= LAST_MOMENT - now.moment();
    }

    private int hoursUntilCome() {
        ahead.copyFrom(now);
        int most = Math.min(MOST_AHEAD, LAST_MOMENT - now.moment());
        int come = 0;
        for (int i = 0; i < most; i++) {
            keeper.weigh(zoo, ahead);
            keeper.choose(zoo, ahead, zoo.beasts);
            come = keeper.follow(zoo, tape, come);
            if (come * 2 >= tape.length) {
                return i + 1;
            }
            keeper.settle(zoo, ahead);
            ahead.passHour();
        }
        return NONE;
    }

    private int drawOfHundred() {
        seed = (1103515245 * seed + 12345) & 0x7fffffff;
        return seed / 64 % 100;
    }

    private void remember() {
        past[(oldestPast + pastCount) % UNDO_ROOM].copyFrom(now);
        if (pastCount < UNDO_ROOM) {
            pastCount++;
        } else {
            oldestPast = (oldestPast + 1) % UNDO_ROOM;
        }
    }

    private static boolean isTrait(int value) {
        return value >= 0 && value <= MOST_TRAIT;
    }

    private static boolean isNewTriple(int[] row, int at, int a, int b, int c) {
        if (!isTrait(a) || !isTrait(b) || !isTrait(c)) {
            return false;
        }
        return row[at] != a || row[at + 1] != b || row[at + 2] != c;
    }

    private static void setTriple(int[] row, int at, int a, int b, int c) {
        row[at] = a;
        row[at + 1] = b;
        row[at + 2] = c;
    }

    /** What was fed, byte by byte, and the reading of it token by token. */
    private static final class Tape {
        static final int MOST_LETTERS = 6;
        static final int MOST_DIGITS = 4;
        static final int ALPHABET = 27;

        // Kinds of tokens: a sign is its own byte, an own word is WORD and its number.
        static final int END = 256;
        static final int BAD = 257;
        static final int NAME = 258;
        static final int NUMBER = 259;
        static final int WORD = 300;
        static final int OWN_COUNT = 30;

        static final int BEAST = WORD;
        static final int WAKES = WORD + 1;
        static final int TO = WORD + 2;
        static final int AT = WORD + 3;
        static final int TASTE = WORD + 4;
        static final int GUEST = WORD + 5;
        static final int COMES = WORD + 6;
        static final int FEARS = WORD + 7;
        static final int LIKES = WORD + 8;
        static final int MAY = WORD + 9;
        static final int USHERS = WORD + 10;
        static final int BORES = WORD + 11;
        static final int KEEPS = WORD + 12;
        static final int FEE = WORD + 13;
        static final int RAIN = WORD + 14;
        static final int SUITS = WORD + 15;
        static final int TALK = WORD + 20;
        static final int LIKING = WORD + 21;
        static final int FREE = WORD + 22;
        static final int IF = WORD + 23;
        static final int OR = WORD + 24;
        static final int AND = WORD + 25;
        static final int NOT = WORD + 26;
        static final int ALL = WORD + 27;
        static final int MIN = WORD + 28;
        static final int MAX = WORD + 29;

        /** In the order of the numbers above. */
        static final String OWN_WORDS =
            "beast wakes to at taste guest comes fears likes may ushers bores keeps fee rain suits saw hour looks smell talk liking free if or and not all min max ";

        final int[] bytes = new int[TAPE_ROOM];
        int length;
        /** The tokens, the last one END or BAD: their kinds, first bytes, and numbers or names. */
        final int[] kinds = new int[TAPE_ROOM + 1];
        final int[] starts = new int[TAPE_ROOM + 1];
        final int[] values = new int[TAPE_ROOM + 1];
        int tokens;
        /** Where a BAD token goes wrong. */
        int badPlace;

        private final int[] ownCodes = new int[OWN_COUNT];
        private int at;

        Tape() {
            int word = 0;
            int code = 0;
            int letters = 0;
            for (int i = 0; i < OWN_WORDS.length() && word < OWN_COUNT; i++) {
                char c = OWN_WORDS.charAt(i);
                if (c == ' ') {
                    ownCodes[word] = padded(code, letters);
                    word++;
                    code = 0;
                    letters = 0;
                } else {
                    code = code * ALPHABET + c - 'a' + 1;
                    letters++;
                }
            }
        }

        /** A name is one number of six digits to the base 27, with 0 behind its last letter. */
        private static int padded(int code, int letters) {
            int full = code;
            for (int i = letters; i < MOST_LETTERS; i++) {
                full *= ALPHABET;
            }
            return full;
        }

        static int letterOf(int name, int k) {
            int rest = name;
            for (int i = k + 1; i < MOST_LETTERS; i++) {
                rest /= ALPHABET;
            }
            return rest % ALPHABET;
        }

        void put(int number) {
            for (int shift = 24; shift >= 0 && length < TAPE_ROOM; shift -= 8) {
                bytes[length] = number >>> shift & 255;
                length++;
            }
        }

        /** Whether the bytes are 1 to 16 rows of two, below firsts and below seconds. */
        boolean holdsPairs(int firsts, int seconds) {
            if (length < 2 || length > 2 * TOLD_ROOM || length % 2 != 0) {
                return false;
            }
            for (int i = 0; i < length; i++) {
                if (bytes[i] >= (i % 2 == 0 ? firsts : seconds)) {
                    return false;
                }
            }
            return true;
        }

        boolean pairsUnlike() {
            for (int i = 0; i + 1 < length; i += 2) {
                if (bytes[i] == bytes[i + 1]) {
                    return false;
                }
            }
            return true;
        }

        /** Splits the text into tokens. What is BAD is no fault before the parser comes to it. */
        void split() {
            at = 0;
            tokens = 0;
            int textEnd = NONE;
            for (int i = 0; i <= TAPE_ROOM; i++) {
                skipBlanks();
                // A word or number right behind another one lacks its blank.
                int kind = scan(at == textEnd);
                tokens = i + 1;
                if (kind == END || kind == BAD) {
                    return;
                }
                textEnd = kind >= NAME ? at : NONE;
            }
        }

        private void skipBlanks() {
            while (at < length && (bytes[at] == ' ' || bytes[at] == 10)) {
                at++;
            }
        }

        private int scan(boolean isGlued) {
            int kind;
            starts[tokens] = at;
            values[tokens] = 0;
            if (at >= length) {
                kind = END;
            } else if (!isLetter(bytes[at]) && !isDigit(bytes[at])) {
                kind = bytes[at];
                at++;
            } else if (isGlued) {
                kind = badHere();
            } else if (isLetter(bytes[at])) {
                kind = scanWord();
            } else {
                kind = scanNumber();
            }
            kinds[tokens] = kind;
            return kind;
        }

        private int badHere() {
            badPlace = at;
            return BAD;
        }

        private int scanWord() {
            int code = 0;
            int letters = 0;
            while (at < length && isLetter(bytes[at])) {
                if (letters == MOST_LETTERS) {
                    return badHere();
                }
                code = code * ALPHABET + bytes[at] - 'a' + 1;
                letters++;
                at++;
            }
            code = padded(code, letters);
            values[tokens] = code;
            for (int i = 0; i < OWN_COUNT; i++) {
                if (ownCodes[i] == code) {
                    return WORD + i;
                }
            }
            return NAME;
        }

        private int scanNumber() {
            int number = 0;
            int digits = 0;
            while (at < length && isDigit(bytes[at])) {
                if (digits == MOST_DIGITS) {
                    return badHere();
                }
                number = number * 10 + bytes[at] - '0';
                digits++;
                at++;
            }
            values[tokens] = number;
            return NUMBER;
        }

        private static boolean isLetter(int c) {
            return c >= 'a' && c <= 'z';
        }

        private static boolean isDigit(int c) {
            return c >= '0' && c <= '9';
        }
    }

    /** What a text tells: all that no hour and no act changes, and how things are at first. */
    private static final class Zoo {
        int beasts;
        int guests;
        final int[] beastName = new int[BEAST_ROOM];
        final int[] wakes = new int[BEAST_ROOM];
        final int[] sleeps = new int[BEAST_ROOM];
        final int[] place = new int[BEAST_ROOM];
        final int[] firstTastes = new int[BEAST_ROOM * TRAITS];
        final int[] guestName = new int[GUEST_ROOM];
        final int[] comes = new int[GUEST_ROOM];
        final int[] goes = new int[GUEST_ROOM];
        final int[] fears = new int[GUEST_ROOM];
        final int[] firstTraits = new int[GUEST_ROOM * TRAITS];
        final Formula likes = new Formula();
        final Formula may = new Formula();
        int ushers = 6;
        int bores = 1;
        int keeps = 3;
        int fee = 5;
        int rain;

        void clear() {
            beasts = 0;
            guests = 0;
            likes.length = 0;
            may.length = 0;
            ushers = 6;
            bores = 1;
            keeps = 3;
            fee = 5;
            rain = 0;
        }

        void addBeast(int name, int from, int to, int where) {
            if (beasts < BEAST_ROOM) {
                beastName[beasts] = name;
                wakes[beasts] = from;
                sleeps[beasts] = to;
                place[beasts] = where;
                setTriple(firstTastes, beasts * TRAITS, 1, 1, 1);
                beasts++;
            }
        }

        void addGuest(int name, int from, int to) {
            if (guests < GUEST_ROOM) {
                guestName[guests] = name;
                comes[guests] = from;
                goes[guests] = to;
                fears[guests] = 0;
                guests++;
            }
        }

        int beastCalled(int name) {
            for (int b = 0; b < beasts; b++) {
                if (beastName[b] == name) {
                    return b;
                }
            }
            return NONE;
        }

        int guestCalled(int name) {
            for (int g = 0; g < guests; g++) {
                if (guestName[g] == name) {
                    return g;
                }
            }
            return NONE;
        }

        boolean isBeast(int beast) {
            return beast >= 0 && beast < beasts;
        }

        boolean isGuest(int guest) {
            return guest >= 0 && guest < guests;
        }

        boolean isAwake(int beast, int hour) {
            return wakes[beast] <= hour && hour <= sleeps[beast];
        }

        boolean isThere(int guest, int hour) {
            return comes[guest] <= hour && hour <= goes[guest];
        }

        boolean isFeared(int beast, int guest) {
            return (fears[guest] >> beast & 1) != 0;
        }
    }

    /** A SUM or a TEST, each operation behind what it works on; empty when none was told. */
    private static final class Formula {
        // The signs + - * / % < > = stand for themselves.
        static final int NUMBER = 1;
        static final int SCENE = 2;
        static final int LESSER = 3;
        static final int GREATER = 4;
        static final int CHOICE = 5;
        static final int NOT = 6;
        static final int AND = 7;
        static final int OR = 8;

        // What a scene tells, in this order.
        static final int SUITS = 0;
        static final int SAW = 1;
        static final int HOUR = 2;
        static final int LOOKS = 3;
        static final int LIKING = 6;
        static final int FEARS = 7;
        static final int FREE = 8;
        static final int SCENE_ROOM = 9;

        static final int LIMIT = 1000000;
        /** Seven open brackets leave at most five operands each waiting. */
        static final int STACK_ROOM = 64;

        final int[] code = new int[TAPE_ROOM];
        int length;
        private final int[] stack = new int[STACK_ROOM];

        void add(int operation, int operand) {
            if (length < TAPE_ROOM) {
                code[length] = operand << 8 | operation;
                length++;
            }
        }

        int valueOf(int[] scene) {
            int top = 0;
            for (int i = 0; i < length; i++) {
                int operation = code[i] & 255;
                int needed = operandsOf(operation);
                int at = top - needed;
                if (at < 0 || at >= STACK_ROOM) {
                    return 0;
                }
                switch (needed) {
                    case 0:
                        stack[at] = pushed(operation, code[i] >> 8, scene);
                        break;
                    case 1:
                        stack[at] = 1 - stack[at];
                        break;
                    case 2:
                        stack[at] = joined(operation, stack[at], stack[at + 1]);
                        break;
                    default:
                        stack[at] = stack[at] != 0 ? stack[at + 1] : stack[at + 2];
                        break;
                }
                top = at + 1;
            }
            return top > 0 ? stack[top - 1] : 0;
        }

        private static int operandsOf(int operation) {
            switch (operation) {
                case NUMBER:
                case SCENE: return 0;
                case NOT: return 1;
                case CHOICE: return 3;
                default: return 2;
            }
        }

        private static int pushed(int operation, int operand, int[] scene) {
            if (operation == NUMBER) {
                return operand;
            }
            return operand >= 0 && operand < scene.length ? scene[operand] : 0;
        }

        static int joined(int operation, int a, int b) {
            long result = 0;
            switch (operation) {
                case '+': result = (long) a + b; break;
                case '-': result = (long) a - b; break;
                case '*': result = (long) a * b; break;
                case '/': result = b == 0 ? 0 : Math.floorDiv(a, b); break;
                case '%': result = b == 0 ? 0 : Math.floorMod(a, b); break;
                case '<': result = a < b ? 1 : 0; break;
                case '>': result = a > b ? 1 : 0; break;
                case '=': result = a == b ? 1 : 0; break;
                case LESSER: result = Math.min(a, b); break;
                case GREATER: result = Math.max(a, b); break;
                case AND: result = a & b; break;
                case OR: result = a | b; break;
                default: break;
            }
            return (int) Math.max(-LIMIT, Math.min(LIMIT, result));
        }
    }

    /** Reads a zoo from the tape, up to its first fault. */
    private static final class Parser {
        static final int MOST_STATEMENTS = 80;
        static final int MOST_OPEN = 7;

        static final int NO_ZOO = 1;
        static final int NAME_GIVEN = 2;
        static final int NAME_UNKNOWN = 3;
        static final int NUMBER_WRONG = 4;
        static final int TOO_DEEP = 5;
        static final int TOO_MANY = 6;

        final Tape tape = new Tape();
        int fault;
        int faultPlace = NONE;
        private Zoo zoo;
        private Formula formula;
        private boolean isInMay;
        private int open;
        /** Which token comes next. END and BAD are never taken, so that it stays below their count. */
        private int at;
        /** The number, name, beast or guest that was read last. */
        private int read;

        int parse(Zoo into) {
            zoo = into;
            zoo.clear();
            fault = 0;
            faultPlace = NONE;
            at = 0;
            tape.split();
            for (int count = 0; count <= MOST_STATEMENTS; count++) {
                if (kind() == Tape.END) {
                    return count;
                }
                if (count == MOST_STATEMENTS) {
                    fail(TOO_MANY);
                    return NONE;
                }
                if (!statement() || !token(';')) {
                    return NONE;
                }
            }
            return NONE;
        }

        private int kind() {
            return tape.kinds[at];
        }

        private boolean fail(int why) {
            fault = why;
            faultPlace = why == NO_ZOO && tape.kinds[at] == Tape.BAD ? tape.badPlace : tape.starts[at];
            return false;
        }

        private boolean statement() {
            switch (kind()) {
                case Tape.BEAST: return beastStatement();
                case Tape.TASTE: return tasteStatement();
                case Tape.GUEST: return guestStatement();
                case Tape.FEARS: return fearStatement();
                case Tape.LIKES: return likesStatement();
                case Tape.MAY: return mayStatement();
                case Tape.USHERS:
                case Tape.BORES:
                case Tape.KEEPS:
                case Tape.FEE:
                case Tape.RAIN: return setting(kind());
                default: return fail(NO_ZOO);
            }
        }

        private boolean beastStatement() {
            if (zoo.beasts >= BEAST_ROOM) {
                return fail(TOO_MANY);
            }
            at++;
            if (!newName()) {
                return false;
            }
            int name = read;
            if (!token(Tape.WAKES) || !number(0, DAY_HOURS - 1)) {
                return false;
            }
            int from = read;
            if (!token(Tape.TO) || !number(from, DAY_HOURS - 1)) {
                return false;
            }
            int to = read;
            if (!token(Tape.AT) || !number(0, 99)) {
                return false;
            }
            zoo.addBeast(name, from, to, read);
            return true;
        }

        private boolean tasteStatement() {
            at++;
            if (!knownBeast()) {
                return false;
            }
            return triple(zoo.firstTastes, read * TRAITS);
        }

        private boolean guestStatement() {
            if (zoo.guests >= GUEST_ROOM) {
                return fail(TOO_MANY);
            }
            at++;
            if (!newName()) {
                return false;
            }
            int name = read;
            if (!triple(zoo.firstTraits, zoo.guests * TRAITS)) {
                return false;
            }
            if (!token(Tape.COMES) || !number(0, DAY_HOURS - 1)) {
                return false;
            }
            int from = read;
            if (!token(Tape.TO) || !number(from, DAY_HOURS - 1)) {
                return false;
            }
            zoo.addGuest(name, from, read);
            return true;
        }

        private boolean fearStatement() {
            at++;
            if (!knownGuest()) {
                return false;
            }
            int guest = read;
            if (!knownBeast()) {
                return false;
            }
            if (zoo.isFeared(read, guest)) {
                // The fault stands at the beast, which is taken already.
                at--;
                return fail(NAME_UNKNOWN);
            }
            zoo.fears[guest] |= 1 << read;
            return true;
        }

        private boolean likesStatement() {
            if (zoo.likes.length > 0) {
                return fail(TOO_MANY);
            }
            at++;
            formula = zoo.likes;
            isInMay = false;
            open = 0;
            return sum();
        }

        private boolean mayStatement() {
            if (zoo.may.length > 0) {
                return fail(TOO_MANY);
            }
            at++;
            formula = zoo.may;
            isInMay = true;
            open = 0;
            return test();
        }

        private boolean setting(int which) {
            at++;
            switch (which) {
                case Tape.USHERS:
                    if (!number(0, MOST_USHERS)) {
                        return false;
                    }
                    zoo.ushers = read;
                    return true;
                case Tape.BORES:
                    if (!number(0, 99)) {
                        return false;
                    }
                    zoo.bores = read;
                    return true;
                case Tape.KEEPS:
                    if (!number(2, 9)) {
                        return false;
                    }
                    zoo.keeps = read;
                    return true;
                case Tape.FEE:
                    if (!number(0, 99)) {
                        return false;
                    }
                    zoo.fee = read;
                    return true;
                default:
                    if (!number(0, 100)) {
                        return false;
                    }
                    zoo.rain = read;
                    return true;
            }
        }

        // ---- tokens

        private boolean token(int wanted) {
            if (kind() != wanted) {
                return fail(NO_ZOO);
            }
            at++;
            return true;
        }

        private boolean number(int least, int most) {
            if (kind() != Tape.NUMBER) {
                return fail(NO_ZOO);
            }
            read = tape.values[at];
            if (read < least || read > most) {
                return fail(NUMBER_WRONG);
            }
            at++;
            return true;
        }

        private boolean triple(int[] into, int from) {
            for (int k = 0; k < TRAITS; k++) {
                if (!number(0, MOST_TRAIT)) {
                    return false;
                }
                into[from + k] = read;
            }
            return true;
        }

        private boolean newName() {
            if (kind() != Tape.NAME) {
                return fail(NO_ZOO);
            }
            read = tape.values[at];
            if (zoo.beastCalled(read) != NONE || zoo.guestCalled(read) != NONE) {
                return fail(NAME_GIVEN);
            }
            at++;
            return true;
        }

        private boolean knownBeast() {
            if (kind() != Tape.NAME) {
                return fail(NO_ZOO);
            }
            read = zoo.beastCalled(tape.values[at]);
            if (read == NONE) {
                return fail(NAME_UNKNOWN);
            }
            at++;
            return true;
        }

        private boolean knownGuest() {
            if (kind() != Tape.NAME) {
                return fail(NO_ZOO);
            }
            read = zoo.guestCalled(tape.values[at]);
            if (read == NONE) {
                return fail(NAME_UNKNOWN);
            }
            at++;
            return true;
        }

        /** What opens is counted, which keeps the recursion below low. */
        private boolean opening(int wanted) {
            if (kind() != wanted) {
                return fail(NO_ZOO);
            }
            if (open >= MOST_OPEN) {
                return fail(TOO_DEEP);
            }
            open++;
            at++;
            return true;
        }

        private boolean closing(int wanted) {
            open--;
            return token(wanted);
        }

        // ---- sums and tests

        private boolean sum() {
            if (!product()) {
                return false;
            }
            for (int i = 0; i < TAPE_ROOM; i++) {
                int sign = kind();
                if (sign != '+' && sign != '-') {
                    return true;
                }
                at++;
                if (!product()) {
                    return false;
                }
                formula.add(sign, 0);
            }
            return true;
        }

        private boolean product() {
            if (!part()) {
                return false;
            }
            for (int i = 0; i < TAPE_ROOM; i++) {
                int sign = kind();
                if (sign != '*' && sign != '/' && sign != '%') {
                    return true;
                }
                at++;
                if (!part()) {
                    return false;
                }
                formula.add(sign, 0);
            }
            return true;
        }

        private boolean part() {
            switch (kind()) {
                case Tape.NUMBER:
                    formula.add(Formula.NUMBER, tape.values[at]);
                    at++;
                    return true;
                case '(':
                    return opening('(') && sum() && closing(')');
                case Tape.MIN:
                    return pairOfSums(Formula.LESSER);
                case Tape.MAX:
                    return pairOfSums(Formula.GREATER);
                case Tape.IF:
                    return choice();
                default:
                    return scenePart();
            }
        }

        private boolean pairOfSums(int operation) {
            at++;
            if (!opening('(') || !sum() || !token(',') || !sum() || !closing(')')) {
                return false;
            }
            formula.add(operation, 0);
            return true;
        }

        private boolean choice() {
            at++;
            if (!opening('(') || !test() || !token(',') || !sum() || !token(',') || !sum() || !closing(')')) {
                return false;
            }
            formula.add(Formula.CHOICE, 0);
            return true;
        }

        private boolean scenePart() {
            int kind = kind();
            int which = NONE;
            if (kind >= Tape.SUITS && kind <= Tape.TALK) {
                which = kind - Tape.SUITS;
            } else if (isInMay && kind == Tape.LIKING) {
                which = Formula.LIKING;
            } else if (isInMay && kind == Tape.FEARS) {
                which = Formula.FEARS;
            } else if (isInMay && kind == Tape.FREE) {
                which = Formula.FREE;
            }
            if (which == NONE) {
                return fail(NO_ZOO);
            }
            formula.add(Formula.SCENE, which);
            at++;
            return true;
        }

        private boolean test() {
            if (!both()) {
                return false;
            }
            for (int i = 0; i < TAPE_ROOM; i++) {
                if (kind() != Tape.OR) {
                    return true;
                }
                at++;
                if (!both()) {
                    return false;
                }
                formula.add(Formula.OR, 0);
            }
            return true;
        }

        private boolean both() {
            if (!fact()) {
                return false;
            }
            for (int i = 0; i < TAPE_ROOM; i++) {
                if (kind() != Tape.AND) {
                    return true;
                }
                at++;
                if (!fact()) {
                    return false;
                }
                formula.add(Formula.AND, 0);
            }
            return true;
        }

        private boolean fact() {
            switch (kind()) {
                case Tape.NOT:
                    if (!opening(Tape.NOT) || !fact()) {
                        return false;
                    }
                    open--;
                    formula.add(Formula.NOT, 0);
                    return true;
                case '[':
                    return opening('[') && test() && closing(']');
                case Tape.ALL:
                    formula.add(Formula.NUMBER, 1);
                    at++;
                    return true;
                default:
                    return comparison();
            }
        }

        private boolean comparison() {
            if (!sum()) {
                return false;
            }
            int sign = kind();
            if (sign != '<' && sign != '>' && sign != '=') {
                return fail(NO_ZOO);
            }
            at++;
            if (!sum()) {
                return false;
            }
            formula.add(sign, 0);
            return true;
        }
    }

    /** All that hours and acts change, but the seed. */
    private static final class State {
        int day;
        int hour;
        int fees;
        final int[] traits = new int[GUEST_ROOM * TRAITS];
        final int[] keptBy = new int[GUEST_ROOM];
        final int[] sentBack = new int[GUEST_ROOM];
        final int[] tastes = new int[BEAST_ROOM * TRAITS];
        final int[] saw = new int[BEAST_ROOM * GUEST_ROOM];
        final int[] sawToday = new int[BEAST_ROOM * GUEST_ROOM];
        /** The kept rows go round in these places, each as one number. */
        final int[] rows = new int[ROW_ROOM];
        int oldestRow;
        int rowCount;

        State() {
            forgetDay();
        }

        void begin(Zoo zoo) {
            day = 0;
            hour = 0;
            fees = 0;
            System.arraycopy(zoo.firstTraits, 0, traits, 0, traits.length);
            System.arraycopy(zoo.firstTastes, 0, tastes, 0, tastes.length);
            for (int i = 0; i < saw.length; i++) {
                saw[i] = 0;
            }
            forgetDay();
            forgetRows();
        }

        void copyFrom(State other) {
            day = other.day;
            hour = other.hour;
            fees = other.fees;
            System.arraycopy(other.traits, 0, traits, 0, traits.length);
            System.arraycopy(other.keptBy, 0, keptBy, 0, keptBy.length);
            System.arraycopy(other.sentBack, 0, sentBack, 0, sentBack.length);
            System.arraycopy(other.tastes, 0, tastes, 0, tastes.length);
            System.arraycopy(other.saw, 0, saw, 0, saw.length);
            System.arraycopy(other.sawToday, 0, sawToday, 0, sawToday.length);
            System.arraycopy(other.rows, 0, rows, 0, rows.length);
            oldestRow = other.oldestRow;
            rowCount = other.rowCount;
        }

        int moment() {
            return day * DAY_HOURS + hour;
        }

        int suits(int beast, int guest) {
            int together = 0;
            for (int k = 0; k < TRAITS; k++) {
                together += traits[guest * TRAITS + k] * tastes[beast * TRAITS + k];
            }
            return together;
        }

        void passHour() {
            hour++;
            if (hour >= DAY_HOURS) {
                hour = 0;
                day++;
                forgetDay();
            }
        }

        private void forgetDay() {
            for (int g = 0; g < GUEST_ROOM; g++) {
                keptBy[g] = NONE;
                sentBack[g] = 0;
            }
            for (int i = 0; i < sawToday.length; i++) {
                sawToday[i] = 0;
            }
        }

        void swapKnowledge(int first, int second) {
            for (int g = 0; g < GUEST_ROOM; g++) {
                swapPlaces(saw, first * GUEST_ROOM + g, second * GUEST_ROOM + g);
                swapPlaces(sawToday, first * GUEST_ROOM + g, second * GUEST_ROOM + g);
            }
        }

        private static void swapPlaces(int[] row, int a, int b) {
            int held = row[a];
            row[a] = row[b];
            row[b] = held;
        }

        void forgetRows() {
            oldestRow = 0;
            rowCount = 0;
        }

        void keepRow(int beast, int guest, int outcome) {
            int pair = moment() * BEAST_ROOM * GUEST_ROOM + beast * GUEST_ROOM + guest;
            rows[(oldestRow + rowCount) % ROW_ROOM] = pair * 4 + outcome;
            if (rowCount < ROW_ROOM) {
                rowCount++;
            } else {
                oldestRow = (oldestRow + 1) % ROW_ROOM;
            }
        }

        int rowPart(int k, int what) {
            int row = rows[(oldestRow + k) % ROW_ROOM];
            int pair = row / 4;
            int when = pair / (BEAST_ROOM * GUEST_ROOM);
            switch (what) {
                case 0: return when / DAY_HOURS;
                case 1: return when % DAY_HOURS;
                case 2: return pair / GUEST_ROOM % BEAST_ROOM;
                case 3: return pair % GUEST_ROOM;
                case 4: return row % 4;
                default: return NONE;
            }
        }
    }

    /** Plays hours: who is liked how much, who asks for whom, and what becomes of it. */
    private static final class Keeper {
        static final int MOST_LIKING = 999;
        static final int REFUSED = 0;
        static final int SEEN = 1;
        static final int BORED = 2;
        static final int KEPT = 3;

        /** By pairs; 0 also where the beast can't ask for the guest in this hour. */
        final int[] likings = new int[BEAST_ROOM * GUEST_ROOM];
        /** By beasts: for whom each one asks in the hour chosen for. */
        final int[] asked = new int[BEAST_ROOM];
        /** How much changes together, and the traits then. */
        final int[] dressed = new int[1 + TRAITS];
        private final int[] scene = new int[Formula.SCENE_ROOM];

        int liking(Zoo zoo, State state, int beast, int guest) {
            look(state, beast, guest);
            int sum = zoo.likes.length > 0 ? zoo.likes.valueOf(scene)
                : Formula.joined('/', scene[Formula.SUITS], 1 + scene[Formula.SAW]);
            return Math.max(0, Math.min(MOST_LIKING, sum));
        }

        private void look(State state, int beast, int guest) {
            scene[Formula.SUITS] = state.suits(beast, guest);
            scene[Formula.SAW] = state.saw[beast * GUEST_ROOM + guest];
            scene[Formula.HOUR] = state.hour;
            for (int k = 0; k < TRAITS; k++) {
                scene[Formula.LOOKS + k] = state.traits[guest * TRAITS + k];
            }
        }

        private boolean mayAsk(Zoo zoo, State state, int beast, int guest, int free) {
            if (zoo.may.length == 0) {
                return true;
            }
            look(state, beast, guest);
            scene[Formula.LIKING] = likings[beast * GUEST_ROOM + guest];
            scene[Formula.FEARS] = zoo.isFeared(beast, guest) ? 1 : 0;
            scene[Formula.FREE] = free;
            return zoo.may.valueOf(scene) != 0;
        }

        private static boolean canMeet(Zoo zoo, State state, int beast, int guest) {
            return zoo.isAwake(beast, state.hour) && zoo.isThere(guest, state.hour)
                && state.keptBy[guest] == NONE && (state.sentBack[guest] >> beast & 1) == 0;
        }

        void weigh(Zoo zoo, State state) {
            for (int g = 0; g < zoo.guests; g++) {
                weighGuest(zoo, state, g);
            }
        }

        private void weighGuest(Zoo zoo, State state, int guest) {
            for (int b = 0; b < zoo.beasts; b++) {
                likings[b * GUEST_ROOM + guest] =
                    canMeet(zoo, state, b, guest) ? liking(zoo, state, b, guest) : 0;
            }
        }

        /** Whom a beast likes most of those not taken (bits); the likings are weighed already. */
        int favourite(Zoo zoo, State state, int beast, int taken, int free) {
            int most = 0;
            int who = NONE;
            for (int g = 0; g < zoo.guests; g++) {
                int liked = likings[beast * GUEST_ROOM + g];
                if (liked > most && (taken >> g & 1) == 0 && mayAsk(zoo, state, beast, g, free)) {
                    most = liked;
                    who = g;
                }
            }
            return who;
        }

        /**
         * The askings of the first so many beasts; the likings are weighed already. What becomes of an
         * asking changes no other choice of its hour, so all choices come first.
         */
        void choose(Zoo zoo, State state, int beasts) {
            int taken = 0;
            int free = zoo.ushers;
            for (int b = 0; b < beasts && b < BEAST_ROOM; b++) {
                asked[b] = NONE;
                if (free > 0 && zoo.isAwake(b, state.hour)) {
                    asked[b] = favourite(zoo, state, b, taken, free);
                }
                if (asked[b] != NONE) {
                    taken |= 1 << asked[b];
                    free--;
                }
            }
        }

        /** What was chosen happens: how many askings. */
        int settle(Zoo zoo, State state) {
            int askings = 0;
            for (int b = 0; b < zoo.beasts; b++) {
                if (asked[b] != NONE) {
                    state.keepRow(b, asked[b], meet(zoo, state, b, asked[b]));
                    askings++;
                }
            }
            return askings;
        }

        private int meet(Zoo zoo, State state, int beast, int guest) {
            if (zoo.isFeared(beast, guest)) {
                state.fees = Math.min(MOST_FEES, state.fees + zoo.fee);
                return REFUSED;
            }
            int pair = beast * GUEST_ROOM + guest;
            state.saw[pair] = Math.min(MOST_SEEN, state.saw[pair] + 1);
            state.sawToday[pair] = Math.min(MOST_SEEN, state.sawToday[pair] + 1);
            if (liking(zoo, state, beast, guest) < zoo.bores) {
                state.sentBack[guest] |= 1 << beast;
                return BORED;
            }
            if (state.sawToday[pair] >= zoo.keeps) {
                state.keptBy[guest] = beast;
                return KEPT;
            }
            return SEEN;
        }

        int playHour(Zoo zoo, State state) {
            weigh(zoo, state);
            choose(zoo, state, zoo.beasts);
            int askings = settle(zoo, state);
            state.passHour();
            return askings;
        }

        int firstLonely(Zoo zoo, int hour) {
            for (int b = 0; b < zoo.beasts; b++) {
                if (zoo.isAwake(b, hour) && asked[b] == NONE) {
                    return b;
                }
            }
            return NONE;
        }

        /** How many rows of a register have come, if so many had come ahead of the hour chosen for. */
        int follow(Zoo zoo, Tape register, int come) {
            int row = come;
            for (int b = 0; b < zoo.beasts && row * 2 + 1 < register.length; b++) {
                int g = asked[b];
                if (g != NONE && !zoo.isFeared(b, g)
                    && register.bytes[row * 2] == b && register.bytes[row * 2 + 1] == g) {
                    row++;
                }
            }
            return row;
        }

        /** Changes the traits of the guest in the state that it is given. */
        void findDress(Zoo zoo, State state, int guest, int beast) {
            for (int k = 0; k <= TRAITS; k++) {
                dressed[k] = NONE;
            }
            if (!canMeet(zoo, state, beast, guest)) {
                return;
            }
            int at = guest * TRAITS;
            int looks = state.traits[at];
            int smell = state.traits[at + 1];
            int talk = state.traits[at + 2];
            weigh(zoo, state);
            for (int i = 0; i < 1000; i++) {
                int change = Math.abs(i / 100 - looks) + Math.abs(i / 10 % 10 - smell) + Math.abs(i % 10 - talk);
                if (dressed[0] == NONE || change < dressed[0]) {
                    setTriple(state.traits, at, i / 100, i / 10 % 10, i % 10);
                    weighGuest(zoo, state, guest);
                    choose(zoo, state, beast + 1);
                    if (asked[beast] == guest) {
                        dressed[0] = change;
                        setTriple(dressed, 1, i / 100, i / 10 % 10, i % 10);
                    }
                }
            }
        }
    }

    /** Who is best brought to whom in this hour. */
    private static final class Bringing {
        static final int GUEST_SETS = 1 << GUEST_ROOM;

        int together;
        final int[] guestFor = new int[BEAST_ROOM];
        /** The most that the beasts from one on can like together, if a set of guests is brought already. */
        private final int[][] most = new int[BEAST_ROOM + 1][GUEST_SETS];

        void find(Zoo zoo, int[] likings) {
            int sets = 1 << zoo.guests;
            for (int set = 0; set < sets && set < GUEST_SETS; set++) {
                most[zoo.beasts][set] = 0;
            }
            for (int b = zoo.beasts - 1; b >= 0; b--) {
                for (int set = 0; set < sets && set < GUEST_SETS; set++) {
                    most[b][set] = mostFrom(zoo, likings, b, set);
                }
            }
            together = most[0][0];
            follow(zoo, likings);
        }

        private int mostFrom(Zoo zoo, int[] likings, int beast, int set) {
            int best = most[beast + 1][set];
            for (int g = 0; g < zoo.guests; g++) {
                if (canBring(zoo, likings, beast, g, set)) {
                    best = Math.max(best, with(likings, beast, g, set));
                }
            }
            return best;
        }

        private static boolean canBring(Zoo zoo, int[] likings, int beast, int guest, int set) {
            return (set >> guest & 1) == 0 && Integer.bitCount(set) < zoo.ushers
                && likings[beast * GUEST_ROOM + guest] > 0 && !zoo.isFeared(beast, guest);
        }

        private int with(int[] likings, int beast, int guest, int set) {
            return likings[beast * GUEST_ROOM + guest] + most[beast + 1][set | 1 << guest];
        }

        private void follow(Zoo zoo, int[] likings) {
            int set = 0;
            for (int b = 0; b < zoo.beasts; b++) {
                guestFor[b] = NONE;
                for (int g = 0; g < zoo.guests && guestFor[b] == NONE; g++) {
                    if (canBring(zoo, likings, b, g, set) && with(likings, b, g, set) == most[b][set]) {
                        guestFor[b] = g;
                    }
                }
                if (guestFor[b] != NONE) {
                    set |= 1 << guestFor[b];
                }
            }
        }
    }

    /** What was told of a beast whose tastes are unknown, and the tastes that are left by it. */
    private static final class Guesses {
        static final int ALL_TASTES = 1000;

        int toldRows;
        int leftCount;
        /** The pair to send, and how many tastes are left by it at the most. */
        final int[] pair = new int[3];
        private final int[] told = new int[2 * TOLD_ROOM];
        /** Each taste left as a number of three digits. */
        private final int[] left = new int[ALL_TASTES];

        void hear(Tape tape) {
            toldRows = 0;
            for (int i = 0; i + 1 < tape.length && i + 1 < told.length; i += 2) {
                told[i] = tape.bytes[i];
                told[i + 1] = tape.bytes[i + 1];
                toldRows++;
            }
        }

        void gather(int[] traits) {
            leftCount = 0;
            for (int taste = 0; taste < ALL_TASTES; taste++) {
                if (fits(taste, traits)) {
                    left[leftCount] = taste;
                    leftCount++;
                }
            }
        }

        private boolean fits(int taste, int[] traits) {
            for (int i = 0; i < toldRows; i++) {
                if (lead(taste, traits, told[2 * i], told[2 * i + 1]) <= 0) {
                    return false;
                }
            }
            return true;
        }

        /** By how much the first guest suits more than the second one. */
        private static int lead(int taste, int[] traits, int first, int second) {
            int together = 0;
            for (int k = 0; k < TRAITS; k++) {
                together += digit(taste, k) * (traits[first * TRAITS + k] - traits[second * TRAITS + k]);
            }
            return together;
        }

        private static int digit(int taste, int k) {
            return k == 0 ? taste / 100 : k == 1 ? taste / 10 % 10 : taste % 10;
        }

        int least(int k) {
            int found = NONE;
            for (int i = 0; i < leftCount; i++) {
                int d = digit(left[i], k);
                found = found == NONE ? d : Math.min(found, d);
            }
            return found;
        }

        int greatest(int k) {
            int found = NONE;
            for (int i = 0; i < leftCount; i++) {
                found = Math.max(found, digit(left[i], k));
            }
            return found;
        }

        void findPair(int guests, int[] traits) {
            setTriple(pair, 0, NONE, NONE, NONE);
            if (leftCount == 0) {
                return;
            }
            for (int a = 0; a < guests; a++) {
                for (int b = a + 1; b < guests; b++) {
                    int most = mostLeft(traits, a, b);
                    if (pair[2] == NONE || most < pair[2]) {
                        setTriple(pair, 0, a, b, most);
                    }
                }
            }
        }

        private int mostLeft(int[] traits, int first, int second) {
            int rather = 0;
            int less = 0;
            for (int i = 0; i < leftCount; i++) {
                int lead = lead(left[i], traits, first, second);
                if (lead > 0) {
                    rather++;
                } else if (lead < 0) {
                    less++;
                }
            }
            return Math.max(Math.max(rather, less), leftCount - rather - less);
        }
    }

    /** Swaps round rings of beasts. */
    private static final class Ring {
        final int[] holds = new int[BEAST_ROOM];
        final int[] gets = new int[BEAST_ROOM];
        final int[] inRound = new int[BEAST_ROOM];
        private final int[] pointsAt = new int[BEAST_ROOM];
        /** Bits of beasts. */
        private int left;

        void find(Zoo zoo, State state, Keeper keeper) {
            hold(zoo, state, keeper);
            // Each round has a ring, so that at least one beast leaves.
            for (int round = 1; round <= BEAST_ROOM && left != 0; round++) {
                for (int b = 0; b < zoo.beasts; b++) {
                    if (isLeft(b)) {
                        pointsAt[b] = pointed(zoo, state, keeper, b);
                    }
                }
                leave(zoo, round);
            }
        }

        private boolean isLeft(int beast) {
            return (left >> beast & 1) != 0;
        }

        private void hold(Zoo zoo, State state, Keeper keeper) {
            left = 0;
            for (int b = 0; b < zoo.beasts; b++) {
                holds[b] = keeper.favourite(zoo, state, b, 0, Math.max(1, zoo.ushers));
                gets[b] = NONE;
                inRound[b] = NONE;
                if (holds[b] != NONE) {
                    left |= 1 << b;
                }
            }
        }

        private int pointed(Zoo zoo, State state, Keeper keeper, int beast) {
            int at = beast;
            int most = keeper.liking(zoo, state, beast, holds[beast]);
            for (int b = 0; b < zoo.beasts; b++) {
                if (isLeft(b)) {
                    int liked = keeper.liking(zoo, state, beast, holds[b]);
                    if (liked > most) {
                        most = liked;
                        at = b;
                    }
                }
            }
            return at;
        }

        private void leave(Zoo zoo, int round) {
            int leaving = 0;
            for (int b = 0; b < zoo.beasts; b++) {
                if (isLeft(b) && goesRound(b)) {
                    gets[b] = holds[pointsAt[b]];
                    inRound[b] = round;
                    leaving |= 1 << b;
                }
            }
            left &= ~leaving;
        }

        private boolean goesRound(int beast) {
            int at = pointsAt[beast];
            for (int i = 0; i < BEAST_ROOM && at != beast; i++) {
                at = pointsAt[at];
            }
            return at == beast;
        }
    }

    /** How ushers share the ways to beasts. */
    private static final class Walk {
        static final int BEAST_SETS = 1 << BEAST_ROOM;

        private final int[] steps = new int[BEAST_SETS];
        /** By sets of beasts: the steps of the one who walks most, for the ushers counted so far. */
        private final int[] least = new int[BEAST_SETS];

        int least(int[] place, int beasts, int ushers) {
            if (beasts < 0 || beasts >= BEAST_SETS) {
                return NONE;
            }
            for (int set = 0; set < BEAST_SETS; set++) {
                steps[set] = stepsTo(place, set);
                least[set] = steps[set];
            }
            for (int usher = 2; usher <= ushers; usher++) {
                // From the greatest set on: smaller ones still count one usher less.
                for (int set = BEAST_SETS - 1; set > 0; set--) {
                    least[set] = sharedByOneMore(set);
                }
            }
            return least[beasts];
        }

        private static int stepsTo(int[] place, int set) {
            int together = 0;
            for (int b = 0; b < BEAST_ROOM; b++) {
                if ((set >> b & 1) != 0) {
                    together += 2 * place[b];
                }
            }
            return together;
        }

        private int sharedByOneMore(int set) {
            int best = least[set];
            for (int own = 1; own <= set; own++) {
                if ((own & ~set) == 0) {
                    best = Math.min(best, Math.max(steps[own], least[set & ~own]));
                }
            }
            return best;
        }
    }

    /** An image that is written, and the reading of one from the tape. */
    private static final class Image {
        static final int ROOM = 160;
        static final int CHECK_START = 151;

        final int[] bytes = new int[ROOM];
        int length;
        private int[] source = bytes;
        private int at;
        private boolean isSound;

        private static int sizeFor(Zoo zoo) {
            return 6 + zoo.guests * (TRAITS + 2) + zoo.beasts * (TRAITS + 2 * zoo.guests);
        }

        private static int check(int[] row, int count) {
            int c = CHECK_START;
            for (int i = 0; i < count && i < row.length; i++) {
                c = (5 * c + row[i]) % 251;
            }
            return c;
        }

        void write(Zoo zoo, State state) {
            length = 0;
            putPair(state.day);
            put(state.hour);
            putPair(state.fees);
            for (int g = 0; g < zoo.guests; g++) {
                putTriple(state.traits, g * TRAITS);
                put(state.keptBy[g] + 1);
                put(state.sentBack[g]);
            }
            for (int b = 0; b < zoo.beasts; b++) {
                putTriple(state.tastes, b * TRAITS);
                for (int g = 0; g < zoo.guests; g++) {
                    put(state.saw[b * GUEST_ROOM + g]);
                    put(state.sawToday[b * GUEST_ROOM + g]);
                }
            }
            put(check(bytes, length));
        }

        private void put(int octet) {
            if (length < ROOM) {
                bytes[length] = octet;
                length++;
            }
        }

        private void putPair(int number) {
            put(number >> 8);
            put(number & 255);
        }

        private void putTriple(int[] row, int from) {
            for (int k = 0; k < TRAITS; k++) {
                put(row[from + k]);
            }
        }

        /** Whether the tape holds an image of the zoo; the state is filled either way. */
        boolean read(Tape tape, Zoo zoo, State into) {
            int size = sizeFor(zoo);
            if (tape.length != size || size < 1 || check(tape.bytes, size - 1) != tape.bytes[size - 1]) {
                return false;
            }
            source = tape.bytes;
            at = 0;
            isSound = true;
            into.forgetRows();
            into.day = takePair(LAST_DAY);
            into.hour = takeByte(DAY_HOURS - 1);
            into.fees = takePair(MOST_FEES);
            for (int g = 0; g < zoo.guests; g++) {
                takeTriple(into.traits, g * TRAITS);
                into.keptBy[g] = takeByte(zoo.beasts) - 1;
                into.sentBack[g] = takeByte((1 << zoo.beasts) - 1);
            }
            for (int b = 0; b < zoo.beasts; b++) {
                takeTriple(into.tastes, b * TRAITS);
                for (int g = 0; g < zoo.guests; g++) {
                    int saw = takeByte(MOST_SEEN);
                    into.saw[b * GUEST_ROOM + g] = saw;
                    into.sawToday[b * GUEST_ROOM + g] = takeByte(saw);
                }
            }
            return isSound;
        }

        private int takeByte(int most) {
            if (at >= source.length || source[at] > most) {
                isSound = false;
                return 0;
            }
            int octet = source[at];
            at++;
            return octet;
        }

        private int takePair(int most) {
            int high = takeByte(255);
            int number = high * 256 + takeByte(255);
            if (number > most) {
                isSound = false;
                return 0;
            }
            return number;
        }

        private void takeTriple(int[] into, int from) {
            for (int k = 0; k < TRAITS; k++) {
                into[from + k] = takeByte(MOST_TRAIT);
            }
        }
    }
}
