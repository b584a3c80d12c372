/**
 * A garden in which people meet by dials that are out. The document (DOC.md) numbers what each call promises.
 *
 * <p>Hours of a night are held as bits of an int, so that "both are there" is an and of two ints.
 */
public final class MoonDials {
    public static final int NONE = -1;

    private static final int NEVER = -2;
    private static final int NOBODY = -2;
    /** In place of a seed (none is below 0): no eclipses. */
    private static final int CLEAR = -1;

    private static final int MAX_BYTES = 2000;
    private static final int MAX_TOKENS = 400;
    private static final int MAX_DIALS = 4;
    private static final int MAX_GOERS = 5;
    private static final int MAX_HOURS = 24;
    private static final int MAX_UNDO = 40;
    private static final int MAX_SLOTS = 3;
    private static final int MAX_TOLD = 20;
    private static final int MAX_MOVES = 6;
    private static final int MAX_SEEDS = 20;

    private static final int MEET_NIGHTS = 400;
    private static final int MANY_NIGHTS = 200;
    private static final int SOME_NIGHTS = 60;
    private static final int TOLD_NIGHTS = 30;

    // What goes on from night to night stands in one row, so that it is copied, held and undone at once.
    private static final int NIGHT = 0;
    private static final int OUT = 1;
    private static final int SLIP = OUT + MAX_DIALS;
    private static final int BY = SLIP + MAX_DIALS;
    private static final int MET = BY + MAX_GOERS;
    private static final int PAIR = MET + MAX_GOERS;
    private static final int ROW = PAIR + MAX_GOERS * MAX_GOERS;

    private static final int COMES = 0;
    private static final int STAYS = 1;
    private static final int WORTH = 2;
    private static final int DIMS = 3;
    private static final int LAWS = 4;

    private final Tape tape = new Tape();
    private final Garden garden = new Garden();
    private final Reader reader = new Reader();
    private final int[] now = new int[ROW];
    private final Shelf past = new Shelf(MAX_UNDO);
    private final Shelf slots = new Shelf(MAX_SLOTS);
    private final Walk walk = new Walk(garden);
    private final Meetings meetings = new Meetings(garden, walk);
    private final Tallies tallies = new Tallies(garden, walk);
    private final Game play = new Game(garden, walk);
    private final Riddle riddle = new Riddle(garden, walk);
    private int faultPlace = NONE;
    private int undoable = 0;
    private int newest = 0;
    private int heldSlots = 0;

    public MoonDials() {
        garden.startIn(now);
    }

    // ---- the tape and the text

    public int feed(int a, int b, int c, int d, int e) {
        if (tape.size > MAX_BYTES - 20) {
            return NONE;
        }
        tape.add(a);
        tape.add(b);
        tape.add(c);
        tape.add(d);
        tape.add(e);
        return tape.size;
    }

    public int back(int n) {
        if (n < 0 || n > tape.size) {
            return NONE;
        }
        tape.size -= n;
        return tape.size;
    }

    public int read() {
        int fault = reader.check(tape);
        faultPlace = reader.faultPlace();
        tape.size = 0;
        if (fault == 0) {
            garden.takeOver(reader.draft);
            garden.startIn(now);
            undoable = 0;
            heldSlots = 0;
            riddle.told = 0;
        }
        return fault;
    }

    public int place() {
        return faultPlace;
    }

    // ---- how it is now

    public int dial(int dial, int what) {
        if (!isDial(dial)) {
            return NONE;
        }
        walk.begin(now);
        switch (what) {
            case 0:
                return now[OUT + dial];
            case 1:
                return now[SLIP + dial];
            case 2:
                return walk.dims(dial);
            case 3:
                return walk.isDark(dial, garden.seed) ? 1 : 0;
            default:
                return NONE;
        }
    }

    public int shows(int dial, int hour) {
        if (!isDial(dial) || !isHour(hour)) {
            return NONE;
        }
        return rest(hour + now[OUT + dial], garden.hours);
    }

    public int goer(int goer, int what) {
        if (!isGoer(goer)) {
            return NONE;
        }
        walk.begin(now);
        switch (what) {
            case 0:
                return now[BY + goer];
            case 1:
                return garden.from[goer];
            case 2:
                return garden.stay[goer];
            case 3:
                return walk.lawOfGoer(COMES, goer) > 0 ? 1 : 0;
            case 4:
                return walk.lawOfGoer(STAYS, goer);
            case 5:
                return walk.lawOfGoer(WORTH, goer);
            case 6:
                return now[MET + goer];
            default:
                return NONE;
        }
    }

    public int together(int goer, int other) {
        return areTwo(goer, other) ? now[pair(goer, other)] : NONE;
    }

    public int there(int hour) {
        if (!isHour(hour)) {
            return NONE;
        }
        seeThisNight();
        return walk.whoAt(hour);
    }

    // ---- what is done

    public int turn(int dial, int k) {
        if (!isDial(dial) || k < 1 || k >= garden.hours) {
            return NONE;
        }
        keepForUndo();
        now[OUT + dial] = rest(now[OUT + dial] + k, garden.hours);
        return now[OUT + dial];
    }

    public boolean follow(int goer, int dial) {
        if (!isGoer(goer) || !isDial(dial) || now[BY + goer] == dial) {
            return false;
        }
        keepForUndo();
        now[BY + goer] = dial;
        return true;
    }

    public boolean slip(int dial, int slip) {
        if (!isDial(dial) || slip < 0 || slip >= garden.hours || now[SLIP + dial] == slip) {
            return false;
        }
        keepForUndo();
        now[SLIP + dial] = slip;
        return true;
    }

    public int nights(int n) {
        if (!isWithin(n, MANY_NIGHTS)) {
            return NONE;
        }
        if (n > 0) {
            keepForUndo();
            walk.begin(now);
            for (int i = 0; i < n; i++) {
                walk.see(garden.seed);
                walk.addPairs();
                walk.pass();
            }
            System.arraycopy(walk.row, 0, now, 0, ROW);
        }
        return now[NIGHT];
    }

    public boolean undo() {
        if (undoable == 0) {
            return false;
        }
        past.take(newest, now);
        newest = rest(newest - 1, MAX_UNDO);
        undoable--;
        return true;
    }

    // ---- what would be

    public int meet(int set, int what) {
        if (!isSet(set) || what < 0 || what > 2) {
            return NONE;
        }
        walk.begin(now);
        int behind = meetings.firstNight(set, MEET_NIGHTS);
        if (behind == NEVER || what == 0) {
            return behind;
        }
        return what == 1 ? firstHour(meetings.hours) : Integer.bitCount(meetings.hours);
    }

    public int often(int goer, int other, int n) {
        if (!areTwo(goer, other) || !isWithin(n, MANY_NIGHTS)) {
            return NONE;
        }
        walk.begin(now);
        return tallies.sharedHours(goer, other, n);
    }

    public int alone(int goer, int n) {
        if (!isGoer(goer) || !isWithin(n, MANY_NIGHTS)) {
            return NONE;
        }
        walk.begin(now);
        return tallies.lonelyHours(goer, n);
    }

    public int earns(int goer, int n) {
        if (!isGoer(goer) || !isWithin(n, MANY_NIGHTS)) {
            return NONE;
        }
        walk.begin(now);
        return tallies.earnings(goer, n);
    }

    public int right(int dial) {
        if (!isDial(dial)) {
            return NONE;
        }
        for (int i = 0; i < garden.hours; i++) {
            if (outBehind(dial, i) == 0) {
                return i;
            }
        }
        return NEVER;
    }

    public int agree(int dial, int other) {
        if (!isDial(dial) || !isDial(other)) {
            return NONE;
        }
        for (int i = 0; i < garden.hours; i++) {
            if (outBehind(dial, i) == outBehind(other, i)) {
                return i;
            }
        }
        return NEVER;
    }

    public int round() {
        // Behind HOURS nights every dial is out as now, whatever its slip.
        for (int i = 1; i < garden.hours; i++) {
            if (allOutAsNow(i)) {
                return i;
            }
        }
        return garden.hours;
    }

    public int turns(int dial, int set, int n) {
        if (!isDial(dial) || !isSet(set) || !isWithin(n, SOME_NIGHTS)) {
            return NONE;
        }
        return meetings.leastTurn(now, dial, set, 0, n);
    }

    public int parts(int dial, int set, int n) {
        if (!isDial(dial) || !isSet(set) || !isWithin(n, SOME_NIGHTS)) {
            return NONE;
        }
        return meetings.leastTurn(now, dial, 0, set, n);
    }

    public int knot(int dial, int set, int without, int n) {
        if (!isDial(dial) || !isSet(set) || !isSet(without) || !isWithin(n, SOME_NIGHTS)) {
            return NONE;
        }
        return meetings.leastTurn(now, dial, set, without, n);
    }

    public int mend(int dial, int set, int n) {
        if (!isDial(dial) || !isSet(set) || !isWithin(n, SOME_NIGHTS)) {
            return NONE;
        }
        return meetings.leastSlip(now, dial, set, n);
    }

    public int sooner(int what) {
        if (what != 0 && what != 1) {
            return NONE;
        }
        walk.begin(now);
        int behind = meetings.firstNightOfTwo();
        return behind == NEVER || what == 1 ? behind : meetings.firstTwo;
    }

    public int strangers(int goer) {
        if (!isGoer(goer)) {
            return NONE;
        }
        walk.begin(now);
        return meetings.neverMet(goer);
    }

    public int by(int goer, int other, int n, int what) {
        if (!areTwo(goer, other) || !isWithin(n, MANY_NIGHTS) || (what != 0 && what != 1)) {
            return NONE;
        }
        int dial = tallies.bestDial(now, goer, other, n);
        return what == 0 ? dial : tallies.most;
    }

    public int peace(int n, int what) {
        if (!isWithin(n, SOME_NIGHTS) || (what != 0 && what != 1)) {
            return NONE;
        }
        walk.begin(now);
        int set = tallies.fewestAway(n);
        return what == 0 ? Integer.bitCount(set) : set;
    }

    public int favourite(int n, int what) {
        if (!isWithin(n, SOME_NIGHTS) || (what != 0 && what != 1)) {
            return NONE;
        }
        walk.begin(now);
        int hour = tallies.busiestHour(n);
        return what == 0 ? hour : tallies.most;
    }

    public int longest(int goer, int other, int n) {
        if (!areTwo(goer, other) || !isWithin(n, MANY_NIGHTS)) {
            return NONE;
        }
        walk.begin(now);
        return tallies.longestNight(goer, other, n);
    }

    public int couples(int n, int i) {
        if (!isWithin(n, SOME_NIGHTS) || (i != NONE && !isGoer(i))) {
            return NONE;
        }
        walk.begin(now);
        int sum = tallies.bestCouples(n);
        return i == NONE ? sum : tallies.chosen[i];
    }

    public int fullest(int what) {
        if (what != 0 && what != 1) {
            return NONE;
        }
        seeThisNight();
        int best = 0;
        for (int hour = 1; hour < garden.hours; hour++) {
            if (Integer.bitCount(walk.whoAt(hour)) > Integer.bitCount(walk.whoAt(best))) {
                best = hour;
            }
        }
        return what == 0 ? best : Integer.bitCount(walk.whoAt(best));
    }

    public int game(int dial, int n, int what) {
        if (garden.goers < 2 || !isDial(dial) || n < 1 || n > MAX_MOVES || (what != 0 && what != 1)) {
            return NONE;
        }
        int hours = play.outcome(now, dial, n);
        return what == 0 ? hours : play.firstMove;
    }

    // ---- by eclipses

    public int metIn(int goer, int n) {
        if (!isGoer(goer) || !isWithin(n, MANY_NIGHTS)) {
            return NONE;
        }
        walk.begin(now);
        walk.passDark(garden.seed, n);
        return walk.row[MET + goer];
    }

    public int outIn(int dial, int n) {
        return isDial(dial) && isWithin(n, MANY_NIGHTS) ? outBehind(dial, n) : NONE;
    }

    public int year(int goer, int other, int n, int s) {
        if (!areTwo(goer, other) || !isWithin(n, MANY_NIGHTS) || s < 1 || s > MAX_SEEDS) {
            return NONE;
        }
        int found = 0;
        for (int i = 0; i < s; i++) {
            walk.begin(now);
            walk.passDark(garden.seed + i, n);
            walk.see(garden.seed + i);
            if (walk.shared(goer, other) != 0) {
                found++;
            }
        }
        return found;
    }

    // ---- what is told

    public int tell(int i, int hour, boolean so) {
        if (!isWithin(i, TOLD_NIGHTS) || !isHour(hour) || riddle.told >= MAX_TOLD) {
            return NONE;
        }
        riddle.add(i, hour, so);
        return riddle.told - 1;
    }

    public int forget() {
        int gone = riddle.told;
        riddle.told = 0;
        return gone;
    }

    public int fits(int k, int goer, int what) {
        if (!isWithin(k, riddle.told) || !isGoer(goer) || (what != 0 && what != 1)) {
            return NONE;
        }
        int dials = riddle.fitting(now, k, goer, 0);
        return what == 0 ? Integer.bitCount(dials) : dials;
    }

    public int look(int k, int goer, int hour) {
        if (!isWithin(k, riddle.told) || !isGoer(goer) || !isHour(hour)) {
            return NONE;
        }
        int dials = riddle.fitting(now, k, goer, hour);
        return dials == 0 ? NEVER : riddle.bestNight(dials);
    }

    // ---- what is held, and counts

    public boolean hold(int slot) {
        if (slot < 0 || slot >= MAX_SLOTS) {
            return false;
        }
        slots.put(slot, now);
        heldSlots |= 1 << slot;
        return true;
    }

    public boolean restore(int slot) {
        if (slot < 0 || slot >= MAX_SLOTS || (heldSlots >> slot & 1) == 0) {
            return false;
        }
        slots.take(slot, now);
        undoable = 0;
        return true;
    }

    public int count(int what) {
        switch (what) {
            case 0:
                return garden.hours;
            case 1:
                return garden.dials;
            case 2:
                return garden.goers;
            case 3:
                return now[NIGHT];
            case 4:
                return pairHours();
            case 8:
                return tape.size;
            case 9:
                return undoable;
            case 10:
                return riddle.told;
            case 11:
                return Integer.bitCount(heldSlots);
            case 12:
                return rightDials();
            case 14:
                return pairsMet();
            case 15:
                return unusedDials();
            case 16:
                return lonelyGoers();
            default:
                return countOfNight(what);
        }
    }

    private int countOfNight(int what) {
        seeThisNight();
        switch (what) {
            case 5:
                return whoComes();
            case 6:
                return allHours(garden.hours) & ~walk.any;
            case 7:
                return darkDials();
            case 13:
                return walk.two;
            default:
                return NONE;
        }
    }

    private int pairHours() {
        int sum = 0;
        for (int a = 0; a < garden.goers; a++) {
            for (int b = a + 1; b < garden.goers; b++) {
                sum += now[pair(a, b)];
            }
        }
        return sum;
    }

    private int pairsMet() {
        int pairs = 0;
        for (int a = 0; a < garden.goers; a++) {
            for (int b = a + 1; b < garden.goers; b++) {
                if (now[pair(a, b)] > 0) {
                    pairs++;
                }
            }
        }
        return pairs;
    }

    private int whoComes() {
        int who = 0;
        for (int g = 0; g < garden.goers; g++) {
            if (walk.lawOfGoer(COMES, g) > 0) {
                who |= 1 << g;
            }
        }
        return who;
    }

    private int darkDials() {
        int dials = 0;
        for (int d = 0; d < garden.dials; d++) {
            if (walk.isDark(d, garden.seed)) {
                dials |= 1 << d;
            }
        }
        return dials;
    }

    private int rightDials() {
        int dials = 0;
        for (int d = 0; d < garden.dials; d++) {
            if (now[OUT + d] == 0) {
                dials |= 1 << d;
            }
        }
        return dials;
    }

    private int unusedDials() {
        int dials = (1 << garden.dials) - 1;
        for (int g = 0; g < garden.goers; g++) {
            dials &= ~(1 << now[BY + g]);
        }
        return dials;
    }

    private int lonelyGoers() {
        int who = 0;
        for (int g = 0; g < garden.goers; g++) {
            if (now[MET + g] == 0) {
                who |= 1 << g;
            }
        }
        return who;
    }

    private void seeThisNight() {
        walk.begin(now);
        walk.see(CLEAR);
    }

    private void keepForUndo() {
        newest = rest(newest + 1, MAX_UNDO);
        undoable = Math.min(undoable + 1, MAX_UNDO);
        past.put(newest, now);
    }

    private int outBehind(int dial, int n) {
        return rest(now[OUT + dial] + n * now[SLIP + dial], garden.hours);
    }

    private boolean allOutAsNow(int n) {
        for (int d = 0; d < garden.dials; d++) {
            if (outBehind(d, n) != now[OUT + d]) {
                return false;
            }
        }
        return true;
    }

    private boolean isDial(int dial) {
        return dial >= 0 && dial < garden.dials;
    }

    private boolean isGoer(int goer) {
        return goer >= 0 && goer < garden.goers;
    }

    private boolean areTwo(int goer, int other) {
        return isGoer(goer) && isGoer(other) && goer != other;
    }

    private boolean isHour(int hour) {
        return hour >= 0 && hour < garden.hours;
    }

    private boolean isSet(int set) {
        return (set >> garden.goers) == 0 && Integer.bitCount(set) >= 2;
    }

    private static boolean isWithin(int n, int most) {
        return n >= 0 && n <= most;
    }

    private static int rest(int value, int divisor) {
        if (divisor <= 0) {
            return 0;
        }
        int left = value % divisor;
        return left < 0 ? left + divisor : left;
    }

    private static int held(int value, int most) {
        if (value < 0) {
            return 0;
        }
        return value > most ? most : value;
    }

    private static int pair(int goer, int other) {
        return PAIR + goer * MAX_GOERS + other;
    }

    private static int allHours(int hours) {
        return (1 << hours) - 1;
    }

    private static int firstHour(int hours) {
        return hours == 0 ? NONE : Integer.bitCount((hours & -hours) - 1);
    }

    /** LOT n of a seed and a which. */
    private static int lot(int n, int seed, int which) {
        int h = mixed(mixed(seed, 203), which);
        return rest(h >>> 1, n);
    }

    private static int mixed(int h, int it) {
        int m = (h ^ it) * 1103515245 + 12345;
        return m ^ (m >>> 15);
    }

    /** The bytes fed and not yet read. */
    private static final class Tape {
        final byte[] bytes = new byte[MAX_BYTES];
        int size = 0;

        void add(int four) {
            for (int shift = 24; shift >= 0 && size < MAX_BYTES; shift -= 8) {
                bytes[size] = (byte) (four >> shift);
                size++;
            }
        }

        /** The byte at a place, 0 .. 255; NONE behind the end. */
        int at(int place) {
            return place >= 0 && place < size ? bytes[place] & 255 : NONE;
        }
    }

    /** Rows of what goes on, one behind the other. */
    private static final class Shelf {
        private final int[] rows;
        private final int places;

        Shelf(int places) {
            this.places = Math.max(0, places);
            rows = new int[this.places * ROW];
        }

        void put(int place, int[] row) {
            if (place >= 0 && place < places && row.length >= ROW) {
                System.arraycopy(row, 0, rows, place * ROW, ROW);
            }
        }

        void take(int place, int[] row) {
            if (place >= 0 && place < places && row.length >= ROW) {
                System.arraycopy(rows, place * ROW, row, 0, ROW);
            }
        }
    }

    /** The tape cut into tokens: of each its kind, its place and what it says (a number, or a name's key). */
    private static final class Tokens {
        /** Their kinds are their numbers in this row, 0 .. 19. */
        private static final String WORDS =
            "hours dial goer comes stays worth dims seed if then else night out slip from long met which day goers ";
        private static final int WORD_COUNT = 20;
        private static final String SIGNS = ";=+-*/<()";

        static final int HOURS = 0;
        static final int DIAL = 1;
        static final int GOER = 2;
        static final int FIRST_LAW = 3;
        static final int LAST_LAW = 6;
        static final int SEED = 7;
        static final int IF = 8;
        static final int THEN = 9;
        static final int ELSE = 10;
        static final int FIRST_VAR = 11;
        static final int LAST_VAR = 19;
        static final int NAME = 20;
        static final int INT = 21;
        static final int FIRST_SIGN = 22;
        static final int SEMICOLON = 22;
        static final int EQUALS = 23;
        static final int PLUS = 24;
        static final int OVER = 27;
        static final int LESS = 28;
        static final int OPEN = 29;
        static final int CLOSE = 30;
        static final int END = 31;
        static final int NO_TOKEN = 32;

        private final long[] wordKeys = new long[WORD_COUNT];
        private final byte[] kinds = new byte[MAX_TOKENS + 1];
        private final int[] places = new int[MAX_TOKENS + 1];
        private final long[] values = new long[MAX_TOKENS + 1];
        private int size;

        Tokens() {
            long key = 0;
            int word = 0;
            for (int i = 0; i < WORDS.length() && word < WORD_COUNT; i++) {
                char sign = WORDS.charAt(i);
                if (sign == ' ') {
                    wordKeys[word] = key;
                    word++;
                    key = 0;
                } else {
                    key = withLetter(key, sign);
                }
            }
        }

        int kindOf(int token) {
            return token >= 0 && token < size ? kinds[token] : END;
        }

        int placeOf(int token) {
            return token >= 0 && token < size ? places[token] : 0;
        }

        long valueOf(int token) {
            return token >= 0 && token < size ? values[token] : 0;
        }

        /** Cuts until the end, what is no token, or the 401st token, behind none of which a text is read on. */
        void cut(Tape tape) {
            size = 0;
            int at = 0;
            int kind = SEMICOLON;
            while (size <= MAX_TOKENS && kind < END) {
                at = behindBlanks(tape, at);
                int sign = tape.at(at);
                int length = runLength(tape, at);
                kind = kindAt(tape, at, length);
                kinds[size] = (byte) kind;
                places[size] = at;
                values[size] = isDigit(sign) ? number(tape, at, length) : key(tape, at, length);
                size++;
                at += length;
            }
        }

        private int kindAt(Tape tape, int at, int length) {
            int sign = tape.at(at);
            if (sign == NONE) {
                return END;
            }
            if (isLetter(sign)) {
                return length > 8 ? NO_TOKEN : wordKind(key(tape, at, length));
            }
            if (isDigit(sign)) {
                return length > 4 ? NO_TOKEN : INT;
            }
            int number = SIGNS.indexOf((char) sign);
            return number < 0 ? NO_TOKEN : FIRST_SIGN + number;
        }

        private int wordKind(long key) {
            for (int word = 0; word < WORD_COUNT; word++) {
                if (wordKeys[word] == key) {
                    return word;
                }
            }
            return NAME;
        }

        /** How many bytes the longest token here has, were there no limit. */
        private static int runLength(Tape tape, int at) {
            int sign = tape.at(at);
            int length = 1;
            if (isLetter(sign)) {
                while (length < MAX_BYTES && isLetter(tape.at(at + length))) {
                    length++;
                }
            } else if (isDigit(sign)) {
                while (length < MAX_BYTES && isDigit(tape.at(at + length))) {
                    length++;
                }
            }
            return length;
        }

        private static int behindBlanks(Tape tape, int from) {
            int at = from;
            while (at < tape.size && isBlank(tape.at(at))) {
                at++;
            }
            return at;
        }

        private static long key(Tape tape, int at, int length) {
            long key = 0;
            for (int i = 0; i < length && i < 8; i++) {
                key = withLetter(key, tape.at(at + i));
            }
            return key;
        }

        private static long number(Tape tape, int at, int length) {
            long number = 0;
            for (int i = 0; i < length && i < 4; i++) {
                number = number * 10 + (tape.at(at + i) - '0');
            }
            return number;
        }

        private static long withLetter(long key, int letter) {
            return key * 32 + (letter & 31);
        }

        private static boolean isLetter(int sign) {
            return sign >= 'a' && sign <= 'z';
        }

        private static boolean isDigit(int sign) {
            return sign >= '0' && sign <= '9';
        }

        private static boolean isBlank(int sign) {
            return sign == 9 || sign == 10 || sign == 13 || sign == 32;
        }
    }

    /** Reads tokens as a text into a draft, and finds its first fault. */
    private static final class Reader {
        private static final int SYNTAX = 1;
        private static final int ROOM = 2;
        private static final int TWICE = 3;
        private static final int NO_NAME = 4;
        private static final int WRONG = 5;
        private static final int MAX_IFS = 4;
        private static final int MAX_DEPTH = 6;

        final Garden draft = new Garden();
        private final Tokens tokens = new Tokens();
        private final long[] dialNames = new long[MAX_DIALS];
        private final long[] goerNames = new long[MAX_GOERS];
        // Signs of an E that wait for what stands behind them.
        private final int[] waiting = new int[32];
        private int waitingSize;
        private int depth;
        private boolean needsUnit;
        private int at;
        // A fault of sense (3 to 5) counts only if the whole text has none of form (1 and 2).
        private int formFault;
        private int senseFault;
        private int sensePlace;

        /** 0, or the number of the tape's fault. */
        int check(Tape tape) {
            tokens.cut(tape);
            draft.clear();
            at = 0;
            formFault = 0;
            senseFault = 0;
            for (int i = 0; i <= MAX_TOKENS && formFault == 0 && tokens.kindOf(at) != Tokens.END; i++) {
                readTell();
            }
            draft.settle();
            return formFault != 0 ? formFault : senseFault;
        }

        int faultPlace() {
            if (formFault != 0) {
                return tokens.placeOf(at);
            }
            return senseFault != 0 ? sensePlace : NONE;
        }

        private void readTell() {
            int kind = tokens.kindOf(at);
            if (kind == Tokens.HOURS) {
                readHours();
            } else if (kind == Tokens.DIAL) {
                readDial();
            } else if (kind == Tokens.GOER) {
                readGoer();
            } else if (kind == Tokens.SEED) {
                take(Tokens.SEED);
                draft.seed = takeInt(0, 9999);
            } else if (kind >= Tokens.FIRST_LAW && kind <= Tokens.LAST_LAW) {
                take(kind);
                readLaw(kind - Tokens.FIRST_LAW);
            } else {
                failForm(SYNTAX);
            }
            take(Tokens.SEMICOLON);
        }

        private void readHours() {
            take(Tokens.HOURS);
            draft.hours = takeInt(2, MAX_HOURS);
        }

        private void readDial() {
            int dial = draft.dials;
            if (dial >= MAX_DIALS) {
                failForm(ROOM);
                return;
            }
            take(Tokens.DIAL);
            dialNames[dial] = takeNewName();
            draft.outs[dial] = takeInt(0, 23);
            draft.slips[dial] = takeInt(0, 23);
            draft.dials++;
        }

        private void readGoer() {
            int goer = draft.goers;
            if (goer >= MAX_GOERS) {
                failForm(ROOM);
                return;
            }
            take(Tokens.GOER);
            goerNames[goer] = takeNewName();
            draft.dialOf[goer] = takeDialName();
            draft.from[goer] = takeInt(0, 23);
            draft.stay[goer] = takeInt(1, 24);
            draft.goers++;
        }

        private void readLaw(int law) {
            take(Tokens.EQUALS);
            draft.laws.open(law);
            for (int ifs = 0; ifs <= MAX_IFS && tokens.kindOf(at) == Tokens.IF; ifs++) {
                if (ifs == MAX_IFS) {
                    failForm(ROOM);
                }
                take(Tokens.IF);
                readSum();
                take(Tokens.LESS);
                readSum();
                take(Tokens.THEN);
                int jump = draft.laws.put(Laws.UNLESS, 0);
                readSum();
                take(Tokens.ELSE);
                draft.laws.put(Laws.END, 0);
                draft.laws.aimHere(jump);
            }
            readSum();
            draft.laws.put(Laws.END, 0);
        }

        /** An E, put as steps for a stack: a sign comes behind its two sides. */
        private void readSum() {
            waitingSize = 0;
            depth = 0;
            needsUnit = true;
            boolean goesOn = formFault == 0;
            for (int i = 0; i <= MAX_TOKENS && goesOn; i++) {
                goesOn = needsUnit ? readUnit() : readSign();
            }
        }

        private boolean readUnit() {
            int kind = tokens.kindOf(at);
            if (kind == Tokens.OPEN) {
                if (depth >= MAX_DEPTH) {
                    failForm(ROOM);
                }
                depth++;
                letWait(kind);
            } else if (kind == Tokens.INT) {
                draft.laws.put(Laws.NUMBER, (int) tokens.valueOf(at));
                needsUnit = false;
            } else if (kind >= Tokens.FIRST_VAR && kind <= Tokens.LAST_VAR) {
                draft.laws.put(Laws.VARIABLE, kind - Tokens.FIRST_VAR);
                needsUnit = false;
            } else {
                failForm(SYNTAX);
            }
            return take(kind);
        }

        /** Behind a unit: false where the E ends. */
        private boolean readSign() {
            int kind = tokens.kindOf(at);
            if (kind >= Tokens.PLUS && kind <= Tokens.OVER) {
                putWaiting(rank(kind));
                letWait(kind);
                needsUnit = true;
                return take(kind);
            }
            putWaiting(1);
            if (depth == 0) {
                return false;
            }
            depth--;
            waitingSize = Math.max(0, waitingSize - 1);
            return take(Tokens.CLOSE);
        }

        private void letWait(int kind) {
            if (waitingSize < waiting.length) {
                waiting[waitingSize] = kind;
                waitingSize++;
            }
        }

        /** Puts the signs that bind at least so much, back to the last bracket. */
        private void putWaiting(int least) {
            while (waitingSize > 0 && rank(waiting[waitingSize - 1]) >= least) {
                waitingSize--;
                draft.laws.put(Laws.PLUS + waiting[waitingSize] - Tokens.PLUS, 0);
            }
        }

        private static int rank(int kind) {
            if (kind == Tokens.OPEN) {
                return 0;
            }
            return kind <= Tokens.PLUS + 1 ? 1 : 2;
        }

        private boolean take(int kind) {
            if (formFault != 0) {
                return false;
            }
            if (tokens.kindOf(at) != kind) {
                failForm(SYNTAX);
            } else if (at >= MAX_TOKENS) {
                failForm(ROOM);
            } else {
                at++;
            }
            return formFault == 0;
        }

        private int takeInt(int least, int most) {
            int value = (int) tokens.valueOf(at);
            if (take(Tokens.INT) && (value < least || value > most)) {
                failSense(WRONG);
            }
            return value;
        }

        private long takeNewName() {
            long name = tokens.valueOf(at);
            if (take(Tokens.NAME) && (isAmong(dialNames, draft.dials, name) || isAmong(goerNames, draft.goers, name))) {
                failSense(TWICE);
            }
            return name;
        }

        private int takeDialName() {
            long name = tokens.valueOf(at);
            boolean taken = take(Tokens.NAME);
            for (int dial = 0; dial < draft.dials && dial < MAX_DIALS; dial++) {
                if (dialNames[dial] == name) {
                    return dial;
                }
            }
            if (taken) {
                failSense(NO_NAME);
            }
            return 0;
        }

        private static boolean isAmong(long[] names, int size, long name) {
            for (int i = 0; i < size && i < names.length; i++) {
                if (names[i] == name) {
                    return true;
                }
            }
            return false;
        }

        /** At the token that would be taken next. */
        private void failForm(int fault) {
            if (formFault == 0) {
                formFault = fault;
            }
        }

        /** At the token taken last. */
        private void failSense(int fault) {
            if (senseFault == 0) {
                senseFault = fault;
                sensePlace = tokens.placeOf(at - 1);
            }
        }
    }

    /** The laws, each as steps for a stack. */
    private static final class Laws {
        static final int NUMBER = 0;
        static final int VARIABLE = 1;
        static final int PLUS = 2;
        static final int MINUS = 3;
        static final int TIMES = 4;
        static final int UNLESS = 6;
        static final int END = 7;

        static final int NIGHT_VAR = 0;
        static final int OUT_VAR = 1;
        static final int SLIP_VAR = 2;
        static final int FROM_VAR = 3;
        static final int LONG_VAR = 4;
        static final int MET_VAR = 5;
        static final int WHICH_VAR = 6;
        static final int DAY_VAR = 7;
        static final int GOERS_VAR = 8;

        final int[] vars = new int[9];
        // Every token of a text puts one step at most; the laws that hold if not told have two each.
        private final int[] steps = new int[MAX_TOKENS + 2 * LAWS];
        private final int[] starts = new int[LAWS];
        private final int[] stack = new int[32];
        private int size;
        private int changing;
        private int opened;

        Laws() {
            clear();
        }

        /** To the laws that hold if none is told. */
        void clear() {
            size = 0;
            changing = 0;
            putShort(COMES, NUMBER, 1);
            putShort(STAYS, VARIABLE, LONG_VAR);
            putShort(WORTH, NUMBER, 1);
            putShort(DIMS, NUMBER, 0);
        }

        private void putShort(int law, int step, int what) {
            open(law);
            put(step, what);
            put(END, 0);
        }

        void takeOver(Laws other) {
            size = other.size;
            changing = other.changing;
            System.arraycopy(other.steps, 0, steps, 0, steps.length);
            System.arraycopy(other.starts, 0, starts, 0, LAWS);
        }

        /** What is put from now on is this law, in place of one told ahead. */
        void open(int law) {
            if (law >= 0 && law < LAWS) {
                opened = law;
                starts[law] = size;
                changing &= ~(1 << law);
            }
        }

        /** Puts a step: where it stands. */
        int put(int step, int what) {
            if (size >= steps.length) {
                return NONE;
            }
            steps[size] = what * 8 + step;
            if (step == VARIABLE && (what == NIGHT_VAR || what == OUT_VAR || what == MET_VAR)) {
                changing |= 1 << opened;
            }
            size++;
            return size - 1;
        }

        /** The jump that was put goes to the step that comes next. */
        void aimHere(int jump) {
            if (jump >= 0 && jump < size) {
                steps[jump] = size * 8 + UNLESS;
            }
        }

        /** Whether what a law says of a goer can change from night to night. */
        boolean changes(int law) {
            return (changing >> law & 1) != 0;
        }

        /** What a law says for the vars as they are set. */
        int say(int law) {
            int top = 0;
            for (int at = starts[law]; at >= 0 && at < size; at++) {
                int step = steps[at] & 7;
                int what = steps[at] >> 3;
                if (step == END) {
                    return top > 0 ? stack[top - 1] : 0;
                }
                if (step == NUMBER || step == VARIABLE) {
                    if (top >= stack.length || step == VARIABLE && what >= vars.length) {
                        return 0;
                    }
                    stack[top] = step == NUMBER ? what : vars[what];
                    top++;
                    continue;
                }
                if (top < 2) {
                    return 0;
                }
                int left = stack[top - 2];
                int right = stack[top - 1];
                if (step == UNLESS) {
                    top -= 2;
                    // A jump only ever goes on, so the loop ends.
                    if (left >= right && what > at) {
                        at = what - 1;
                    }
                    continue;
                }
                top--;
                if (step == PLUS) {
                    stack[top - 1] = left + right;
                } else if (step == MINUS) {
                    stack[top - 1] = left - right;
                } else if (step == TIMES) {
                    stack[top - 1] = left * right;
                } else if (right == 0) {
                    return 0;
                } else {
                    stack[top - 1] = left / right;
                }
            }
            return 0;
        }
    }

    /** What a text tells. */
    private static final class Garden {
        final Laws laws = new Laws();
        final int[] outs = new int[MAX_DIALS];
        final int[] slips = new int[MAX_DIALS];
        final int[] dialOf = new int[MAX_GOERS];
        final int[] from = new int[MAX_GOERS];
        final int[] stay = new int[MAX_GOERS];
        int hours = 12;
        int dials = 0;
        int goers = 0;
        int seed = 0;

        void clear() {
            laws.clear();
            hours = 12;
            dials = 0;
            goers = 0;
            seed = 0;
        }

        /** HOURS may be told behind what is a rest by it. */
        void settle() {
            for (int d = 0; d < MAX_DIALS; d++) {
                outs[d] = rest(outs[d], hours);
                slips[d] = rest(slips[d], hours);
            }
            for (int g = 0; g < MAX_GOERS; g++) {
                from[g] = rest(from[g], hours);
            }
        }

        void takeOver(Garden other) {
            laws.takeOver(other.laws);
            System.arraycopy(other.outs, 0, outs, 0, MAX_DIALS);
            System.arraycopy(other.slips, 0, slips, 0, MAX_DIALS);
            System.arraycopy(other.dialOf, 0, dialOf, 0, MAX_GOERS);
            System.arraycopy(other.from, 0, from, 0, MAX_GOERS);
            System.arraycopy(other.stay, 0, stay, 0, MAX_GOERS);
            hours = other.hours;
            dials = other.dials;
            goers = other.goers;
            seed = other.seed;
        }

        /** The row of night 0. */
        void startIn(int[] row) {
            for (int i = 0; i < row.length; i++) {
                row[i] = 0;
            }
            System.arraycopy(outs, 0, row, OUT, MAX_DIALS);
            System.arraycopy(slips, 0, row, SLIP, MAX_DIALS);
            System.arraycopy(dialOf, 0, row, BY, MAX_GOERS);
        }
    }

    /** Nights that go by in a row of their own: who is there at which hours, and what it comes to. */
    private static final class Walk {
        final int[] row = new int[ROW];
        /** Of each goer the hours (bits) at which they are there in the night seen last. */
        final int[] there = new int[MAX_GOERS];
        /** The hours (bits) at which anybody is there, and two or more are. */
        int any;
        int two;
        private final Garden garden;
        private final int[] shown = new int[MAX_DIALS];
        private final int[] lengths = new int[MAX_GOERS];
        // A law that says the same every night is asked in a walk's first night alone.
        private boolean asked;

        Walk(Garden garden) {
            this.garden = garden;
        }

        void begin(int[] from) {
            System.arraycopy(from, 0, row, 0, ROW);
            asked = false;
        }

        /** Sees this night with the eclipses of a seed, or with none (CLEAR). */
        void see(int seed) {
            boolean asksAgain = !asked || garden.laws.changes(COMES) || garden.laws.changes(STAYS);
            any = 0;
            two = 0;
            for (int d = 0; d < garden.dials; d++) {
                boolean isLot = seed != CLEAR && isDark(d, seed);
                shown[d] = isLot ? lot(garden.hours, seed, 100000 + which(d)) : row[OUT + d];
            }
            for (int g = 0; g < garden.goers; g++) {
                if (asksAgain) {
                    lengths[g] = lawOfGoer(COMES, g) > 0 ? lawOfGoer(STAYS, g) : 0;
                }
                there[g] = arc(garden.from[g] - shown[dialOf(g)], lengths[g]);
                two |= any & there[g];
                any |= there[g];
            }
            asked = true;
        }

        /** So many hours from one on, as bits, round the night. */
        private int arc(int first, int length) {
            int start = rest(first, garden.hours);
            int run = allHours(length);
            return (run << start | run >>> (garden.hours - start)) & allHours(garden.hours);
        }

        /** The night seen goes by; hours of two are left to addPairs, as no law asks for them. */
        void pass() {
            for (int g = 0; g < garden.goers; g++) {
                row[MET + g] += Integer.bitCount(there[g] & two);
            }
            for (int d = 0; d < garden.dials; d++) {
                row[OUT + d] = rest(row[OUT + d] + row[SLIP + d], garden.hours);
            }
            row[NIGHT]++;
        }

        void addPairs() {
            for (int a = 0; a < garden.goers; a++) {
                for (int b = 0; b < garden.goers; b++) {
                    row[pair(a, b)] += shared(a, b);
                }
            }
        }

        void passDark(int seed, int n) {
            for (int i = 0; i < n; i++) {
                see(seed);
                pass();
            }
        }

        /** At how many hours of the night seen two are both there; nobody is two with themselves. */
        int shared(int goer, int other) {
            return goer == other ? 0 : Integer.bitCount(there[goer] & there[other]);
        }

        /** Who (bits) is there at an hour of the night seen. */
        int whoAt(int hour) {
            int who = 0;
            for (int g = 0; g < garden.goers; g++) {
                who |= (there[g] >> hour & 1) << g;
            }
            return who;
        }

        /** What a law says of a goer this night; stays and worth within their bounds. */
        int lawOfGoer(int law, int goer) {
            int[] vars = garden.laws.vars;
            setVars(dialOf(goer), goer);
            vars[Laws.FROM_VAR] = garden.from[goer];
            vars[Laws.LONG_VAR] = garden.stay[goer];
            vars[Laws.MET_VAR] = row[MET + goer];
            int said = garden.laws.say(law);
            if (law == COMES) {
                return said;
            }
            return held(said, law == STAYS ? garden.hours : 99);
        }

        int dims(int dial) {
            int[] vars = garden.laws.vars;
            setVars(dial, dial);
            vars[Laws.FROM_VAR] = 0;
            vars[Laws.LONG_VAR] = 0;
            vars[Laws.MET_VAR] = 0;
            return held(garden.laws.say(DIMS), 100);
        }

        private void setVars(int dial, int which) {
            int[] vars = garden.laws.vars;
            vars[Laws.NIGHT_VAR] = row[NIGHT];
            vars[Laws.OUT_VAR] = row[OUT + dial];
            vars[Laws.SLIP_VAR] = row[SLIP + dial];
            vars[Laws.WHICH_VAR] = which;
            vars[Laws.DAY_VAR] = garden.hours;
            vars[Laws.GOERS_VAR] = garden.goers;
        }

        /** The dial by which a goer goes, as a number that an array of dials has. */
        private int dialOf(int goer) {
            return held(row[BY + goer], MAX_DIALS - 1);
        }

        /** Whether a dial has an eclipse in this night. */
        boolean isDark(int dial, int seed) {
            return lot(100, seed, which(dial)) < dims(dial);
        }

        private int which(int dial) {
            return 8 * row[NIGHT] + dial;
        }
    }

    /** When goers meet, and what must be changed so that they do. */
    private static final class Meetings {
        /** The hours (bits) at which all of a set are there in the night found by firstNight. */
        int hours;
        /** Who first meets by firstNightOfTwo: 10 * the lesser and the other. */
        int firstTwo;
        private final Garden garden;
        private final Walk walk;

        Meetings(Garden garden, Walk walk) {
            this.garden = garden;
            this.walk = walk;
        }

        /** Behind how many nights, n at most, all of a set are first there at one hour, in a walk just begun. */
        int firstNight(int set, int n) {
            for (int i = 0; i <= n; i++) {
                walk.see(CLEAR);
                hours = hoursOfAll(set);
                if (hours != 0) {
                    return i;
                }
                walk.pass();
            }
            return NEVER;
        }

        private int hoursOfAll(int set) {
            int all = allHours(garden.hours);
            for (int g = 0; g < garden.goers; g++) {
                if ((set >> g & 1) != 0) {
                    all &= walk.there[g];
                }
            }
            return all;
        }

        /** By how little a dial must be turned so that a set meets and another does not (0: no such set is asked). */
        int leastTurn(int[] now, int dial, int set, int without, int n) {
            for (int k = 0; k < garden.hours; k++) {
                int out = rest(now[OUT + dial] + k, garden.hours);
                if ((set == 0 || meetsWith(now, OUT + dial, out, set, n))
                    && (without == 0 || !meetsWith(now, OUT + dial, out, without, n))) {
                    return k;
                }
            }
            return NEVER;
        }

        int leastSlip(int[] now, int dial, int set, int n) {
            for (int slip = 0; slip < garden.hours; slip++) {
                if (meetsWith(now, SLIP + dial, slip, set, n)) {
                    return slip;
                }
            }
            return NEVER;
        }

        private boolean meetsWith(int[] now, int cell, int value, int set, int n) {
            walk.begin(now);
            walk.row[cell] = value;
            return firstNight(set, n) != NEVER;
        }

        int firstNightOfTwo() {
            for (int i = 0; i <= MEET_NIGHTS; i++) {
                walk.see(CLEAR);
                if (walk.two != 0) {
                    firstTwo = firstTwoSeen();
                    return i;
                }
                walk.pass();
            }
            return NEVER;
        }

        private int firstTwoSeen() {
            for (int a = 0; a < garden.goers; a++) {
                for (int b = a + 1; b < garden.goers; b++) {
                    if (walk.shared(a, b) != 0) {
                        return 10 * a + b;
                    }
                }
            }
            return NEVER;
        }

        /** The others (bits) with whom a goer does not meet. */
        int neverMet(int goer) {
            int others = (1 << garden.goers) - 1 & ~(1 << goer);
            for (int i = 0; i <= MEET_NIGHTS && others != 0; i++) {
                walk.see(CLEAR);
                for (int g = 0; g < garden.goers; g++) {
                    if (walk.shared(goer, g) != 0) {
                        others &= ~(1 << g);
                    }
                }
                walk.pass();
            }
            return others;
        }
    }

    /** What so many nights would come to, in a walk just begun. */
    private static final class Tallies {
        /** How much what was found last comes to. */
        int most;
        /** With whom each goer is by bestCouples. */
        final int[] chosen = new int[MAX_GOERS];
        private final Garden garden;
        private final Walk walk;
        private final int[] shared = new int[MAX_GOERS * MAX_GOERS];
        private final int[] busy = new int[MAX_HOURS];
        private final int[] partner = new int[MAX_GOERS];

        Tallies(Garden garden, Walk walk) {
            this.garden = garden;
            this.walk = walk;
        }

        int sharedHours(int goer, int other, int n) {
            int sum = 0;
            for (int i = 0; i < n; i++) {
                walk.see(CLEAR);
                sum += walk.shared(goer, other);
                walk.pass();
            }
            return sum;
        }

        int longestNight(int goer, int other, int n) {
            int longest = 0;
            for (int i = 0; i < n; i++) {
                walk.see(CLEAR);
                longest = Math.max(longest, walk.shared(goer, other));
                walk.pass();
            }
            return longest;
        }

        int lonelyHours(int goer, int n) {
            int sum = 0;
            for (int i = 0; i < n; i++) {
                walk.see(CLEAR);
                sum += Integer.bitCount(walk.there[goer] & ~walk.two);
                walk.pass();
            }
            return sum;
        }

        int earnings(int goer, int n) {
            int sum = 0;
            for (int i = 0; i < n; i++) {
                walk.see(CLEAR);
                sum += Integer.bitCount(walk.there[goer] & walk.two) * walk.lawOfGoer(WORTH, goer);
                walk.pass();
            }
            return sum;
        }

        /** The dial by which a goer would be most with another one. */
        int bestDial(int[] now, int goer, int other, int n) {
            int best = 0;
            most = NONE;
            for (int d = 0; d < garden.dials; d++) {
                walk.begin(now);
                walk.row[BY + goer] = d;
                int sum = sharedHours(goer, other, n);
                if (sum > most) {
                    most = sum;
                    best = d;
                }
            }
            return best;
        }

        int busiestHour(int n) {
            clear(busy);
            for (int i = 0; i < n; i++) {
                walk.see(CLEAR);
                for (int hour = 0; hour < garden.hours; hour++) {
                    busy[hour] += walk.two >> hour & 1;
                }
                walk.pass();
            }
            int best = 0;
            for (int hour = 1; hour < garden.hours; hour++) {
                if (busy[hour] > busy[best]) {
                    best = hour;
                }
            }
            most = busy[best];
            return best;
        }

        /** The fewest goers (bits) without whom no two are together. */
        int fewestAway(int n) {
            addShared(n);
            int best = (1 << garden.goers) - 1;
            for (int set = 0; set < 1 << garden.goers; set++) {
                if (Integer.bitCount(set) < Integer.bitCount(best) && isPeaceWithout(set)) {
                    best = set;
                }
            }
            return best;
        }

        private boolean isPeaceWithout(int set) {
            for (int a = 0; a < garden.goers; a++) {
                for (int b = a + 1; b < garden.goers; b++) {
                    if ((set >> a & 1) == 0 && (set >> b & 1) == 0 && shared[a * MAX_GOERS + b] > 0) {
                        return false;
                    }
                }
            }
            return true;
        }

        private void addShared(int n) {
            clear(shared);
            for (int i = 0; i < n; i++) {
                walk.see(CLEAR);
                for (int a = 0; a < garden.goers; a++) {
                    for (int b = a + 1; b < garden.goers; b++) {
                        shared[a * MAX_GOERS + b] += walk.shared(a, b);
                    }
                }
                walk.pass();
            }
        }

        int bestCouples(int n) {
            addShared(n);
            most = NONE;
            for (int g = 0; g < MAX_GOERS; g++) {
                partner[g] = NOBODY;
            }
            pairFrom(this, 0, 0);
            return most;
        }

        /** Tries nobody first, then the lowest, so that the first of alike ones is found first. */
        private static void pairFrom(Tallies t, int goer, int sum) {
            if (goer >= t.garden.goers || goer >= MAX_GOERS) {
                if (sum > t.most) {
                    t.most = sum;
                    System.arraycopy(t.partner, 0, t.chosen, 0, MAX_GOERS);
                }
                return;
            }
            pairFrom(t, goer + 1, sum);
            if (t.partner[goer] != NOBODY) {
                return;
            }
            for (int other = goer + 1; other < t.garden.goers; other++) {
                if (t.partner[other] == NOBODY) {
                    t.partner[goer] = other;
                    t.partner[other] = goer;
                    pairFrom(t, goer + 1, sum + t.shared[goer * MAX_GOERS + other]);
                    t.partner[goer] = NOBODY;
                    t.partner[other] = NOBODY;
                }
            }
        }

        private static void clear(int[] cells) {
            for (int i = 0; i < cells.length; i++) {
                cells[i] = 0;
            }
        }
    }

    /** Two who turn a dial by turns: the first for most hours of goers 0 and 1 together, the other for fewest. */
    private static final class Game {
        /** By how much the dial is turned at first, by the outcome found last. */
        int firstMove;
        private final Garden garden;
        private final Walk walk;
        private final int[][] levels = new int[MAX_MOVES + 1][ROW];
        private int dial;
        private int moves;

        Game(Garden garden, Walk walk) {
            this.garden = garden;
            this.walk = walk;
        }

        int outcome(int[] now, int turned, int n) {
            dial = turned;
            moves = Math.min(n, MAX_MOVES);
            System.arraycopy(now, 0, levels[0], 0, ROW);
            return hoursFrom(this, 0);
        }

        /** The hours to come from a level's row on, if both turn as well as can be. */
        private static int hoursFrom(Game game, int level) {
            if (level >= game.moves || level >= MAX_MOVES) {
                return 0;
            }
            int best = NONE;
            for (int k = 0; k <= 2; k++) {
                int hours = game.tryMove(level, k) + hoursFrom(game, level + 1);
                boolean isBetter = level % 2 == 0 ? hours > best : hours < best;
                if (best == NONE || isBetter) {
                    best = hours;
                    if (level == 0) {
                        game.firstMove = k;
                    }
                }
            }
            return best;
        }

        /** The next level's row is that behind this move and its night: the hours of that night. */
        private int tryMove(int level, int k) {
            walk.begin(levels[level]);
            walk.row[OUT + dial] = rest(walk.row[OUT + dial] + k, garden.hours);
            walk.see(CLEAR);
            int hours = walk.shared(0, 1);
            walk.pass();
            System.arraycopy(walk.row, 0, levels[level + 1], 0, ROW);
            return hours;
        }
    }

    /** What is told of a goer whose dial is unknown, and the dials that fit it. */
    private static final class Riddle {
        int told = 0;
        private final Garden garden;
        private final Walk walk;
        private final int[] toldNight = new int[MAX_TOLD];
        private final int[] toldHour = new int[MAX_TOLD];
        private final boolean[] toldSo = new boolean[MAX_TOLD];
        /** Of each dial the nights (bits) behind which the goer would be there at the hour looked at. */
        private final int[] seen = new int[MAX_DIALS];

        Riddle(Garden garden, Walk walk) {
            this.garden = garden;
            this.walk = walk;
        }

        void add(int night, int hour, boolean so) {
            if (told < MAX_TOLD) {
                toldNight[told] = night;
                toldHour[told] = hour;
                toldSo[told] = so;
                told++;
            }
        }

        /** The dials (bits) by which the first k told are so; on the way it looks at one hour of each night. */
        int fitting(int[] now, int k, int goer, int hour) {
            int dials = 0;
            for (int d = 0; d < garden.dials; d++) {
                walk.begin(now);
                walk.row[BY + goer] = d;
                seen[d] = 0;
                boolean isFit = true;
                for (int night = 0; night <= TOLD_NIGHTS; night++) {
                    walk.see(CLEAR);
                    isFit = isFit && isSo(night, walk.there[goer], k);
                    seen[d] |= (walk.there[goer] >> hour & 1) << night;
                    walk.pass();
                }
                if (isFit) {
                    dials |= 1 << d;
                }
            }
            return dials;
        }

        private boolean isSo(int night, int hours, int k) {
            for (int i = 0; i < k && i < MAX_TOLD; i++) {
                if (toldNight[i] == night && toldSo[i] != ((hours >> toldHour[i] & 1) != 0)) {
                    return false;
                }
            }
            return true;
        }

        /** The night of which, whatever is told of it, fewest of these dials are left. */
        int bestNight(int dials) {
            int best = 0;
            for (int night = 1; night <= TOLD_NIGHTS; night++) {
                if (leftAtWorst(dials, night) < leftAtWorst(dials, best)) {
                    best = night;
                }
            }
            return best;
        }

        private int leftAtWorst(int dials, int night) {
            int yes = 0;
            for (int d = 0; d < garden.dials; d++) {
                if ((dials >> d & 1) != 0) {
                    yes += seen[d] >> night & 1;
                }
            }
            return Math.max(yes, Integer.bitCount(dials) - yes);
        }
    }
}
