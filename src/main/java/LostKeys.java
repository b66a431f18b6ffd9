import java.util.Arrays;
import java.util.NoSuchElementException;

/** Lost keys open what they find: a town, its men, keys and locks, by the numbered promises of DOC.md. */
public final class LostKeys {
    public static final int NONE = -1;

    private static final int MOST_TAPE_BYTES = 940;
    private static final int MOST_TOWN_BYTES = 900;
    private static final int MOST_BOOK_BYTES = 400;
    private static final int MOST_SENTENCE_BYTES = 200;

    /** Rows of cells, and rows of names, are laid out by the most there may be. */
    private static final int SIDE = 6;
    private static final int CELLS = 36;
    private static final int MOST_ROOMS = 6;
    private static final int MOST_LOCKS = 6;
    private static final int MOST_MEN = 5;
    private static final int MOST_KEYS = 8;
    private static final int KEY_SETS = 256;
    private static final int SORTS = 4;
    /** By sort: ROOMS, LOCKS, MEN, KEYS. */
    private static final int[] MOST_OF_SORT = {6, 6, 5, 8};
    private static final int MOST_LINES = 40;
    private static final int MOST_ONES = 20;
    private static final int MOST_WITHIN = 8;
    /** A SENTENCE is kept as its ONES and what joins them: no more than two rows for each ONE. */
    private static final int MOST_STEPS = 40;

    private static final int ALL_DAYS = 400;
    private static final int MOST_DAYS = 60;
    private static final int MOST_WARD = 63;
    private static final int WARD_BITS = 6;
    private static final int MOST_UNDONE = 8;
    private static final int MOST_IMAGES = 2;
    private static final int ODDS_DAYS = 20;
    private static final int MOST_SEEDS = 30;
    private static final int FAR = 1000;

    private static final int FAULT_TOKEN = 1;
    private static final int FAULT_NUMBER = 2;
    private static final int FAULT_NAME = 3;
    private static final int FAULT_MOST = 4;

    private static final int WRONG_CELL = 39;
    private static final int WRONG_DAYS = 41;
    private static final int NO_SUCH_LIVES = -1000;

    /** The words that are no NAMES, each with a blank behind it; the constants below are their places. */
    private static final String WORDS = "room lock man key field slow open drops picks tries walks day or and not lying of had fits near ward lain turned number ";
    private static final int WORD_COUNT = 24;
    private static final int ROOM = 0;
    private static final int LOCK = 1;
    private static final int MAN = 2;
    private static final int KEY = 3;
    private static final int FIELD = 4;
    private static final int SLOW = 5;
    private static final int OPEN = 6;
    private static final int DROPS = 7;
    private static final int PICKS = 8;
    private static final int TRIES = 9;
    private static final int WALKS = 10;
    private static final int DAY = 11;
    private static final int OR = 12;
    private static final int AND = 13;
    private static final int NOT = 14;
    private static final int LYING = 15;
    private static final int OF = 16;
    private static final int HAD = 17;
    private static final int FITS = 18;
    private static final int NEAR = 19;
    private static final int WARD = 20;
    private static final int LAIN = 21;
    private static final int TURNED = 22;
    private static final int NUMBER = 23;

    private static final int TOKEN_BAD = 0;
    private static final int TOKEN_END = 1;
    private static final int TOKEN_WORD = 2;
    private static final int TOKEN_NUMBER = 3;
    private static final int TOKEN_SIGN = 4;

    private static final int LETTERS_IN_WORD = 7;
    private static final int DIGITS_IN_NUMBER = 3;
    /** Words are kept as numbers, five bits a letter, so that comparing and copying them makes no objects. */
    private static final int LETTER_BITS = 5;
    private static final int LETTER_MASK = 31;

    private final Tape tape = new Tape();
    private Town town = new Town();
    private Town draftTown = new Town();
    private State state = new State();
    private State guess = new State();
    private Sentence sentence = new Sentence();
    private Sentence draftSentence = new Sentence();
    private final Book book = new Book();
    private final History history = new History();
    private final Image[] images = new Image[MOST_IMAGES];
    private final Search search = new Search();
    private final Tag tag = new Tag();
    private int fault;
    private int lostX = NONE;
    private int lostY = NONE;
    private int tellsCell = NONE;
    private int firstTwin = NONE;
    private int secondTwin = NONE;

    public LostKeys() {
        for (int i = 0; i < MOST_IMAGES; i++) {
            images[i] = new Image();
        }
    }

    public int feed(int a, int b, int c, int d, int e) {
        if (tape.length > MOST_TAPE_BYTES - 20) {
            return NONE;
        }
        tape.putNumber(a);
        tape.putNumber(b);
        tape.putNumber(c);
        tape.putNumber(d);
        tape.putNumber(e);
        return tape.length;
    }

    public boolean end(int n) {
        if (n < 0 || n > tape.length) {
            return false;
        }
        tape.length = n;
        return true;
    }

    public int town() {
        int lines = draftTown.read(tape);
        endReading();
        if (lines == NONE) {
            return -1 - tape.place;
        }
        Town old = town;
        town = draftTown;
        draftTown = old;
        state.begin(town);
        sentence.ones = 0;
        history.clear();
        return lines;
    }

    public int fault() {
        return fault;
    }

    public int lock(int l, int what) {
        if (!town.has(LOCK, l)) {
            return NONE;
        }
        switch (what) {
            case 0: return town.lockFrom[l];
            case 1: return town.lockTo[l];
            case 2: return town.lockX[l];
            case 3: return town.lockY[l];
            case 4: return town.lockWard[l];
            case 5: return state.open >> l & 1;
            default: return NONE;
        }
    }

    public int key(int k, int what) throws NoSuchElementException {
        if (!town.has(KEY, k)) {
            throw new NoSuchElementException();
        }
        switch (what) {
            case 0: return town.keyMan[k];
            case 1: return state.holder[k];
            case 2: return state.keyX[k];
            case 3: return state.keyY[k];
            case 4: return state.ward[k];
            case 5: return state.lain[k];
            case 6: return state.turned[k];
            case 7: return town.locksFor(state.ward[k]);
            default: throw new NoSuchElementException();
        }
    }

    public int man(int m, int what) throws NoSuchElementException {
        if (!town.has(MAN, m)) {
            throw new NoSuchElementException();
        }
        switch (what) {
            case 0: return state.manX[m];
            case 1: return state.manY[m];
            case 2: return state.keysHeld(town, m);
            case 3: return state.keysLyingBy(town, m);
            default: throw new NoSuchElementException();
        }
    }

    public int now(int what) {
        switch (what) {
            case 0: return state.day;
            case 1: return state.keysHeld(town, NONE);
            case 2: return state.open;
            case 3: return state.turns;
            case 4: return state.openings;
            default: return NONE;
        }
    }

    public int drop(int m, int k) {
        return act(DROPS, m, k, 0);
    }

    public int pick(int m, int k) {
        return act(PICKS, m, k, 0);
    }

    public int tries(int m, int k, int l) {
        return act(TRIES, m, k, l);
    }

    public int walk(int m, int x, int y) {
        return act(WALKS, m, x, y);
    }

    private int act(int what, int m, int a, int b) {
        int why = state.whyNot(town, what, m, a, b);
        if (why == 0) {
            history.keep(state);
            state.perform(town, what, m, a, b);
        }
        return why;
    }

    public int days(int n) {
        if (n < 1 || n > MOST_DAYS) {
            return NONE;
        }
        if (state.daysLeft() > 0) {
            history.keep(state);
        }
        return state.passDays(town, n);
    }

    public int undo() {
        return history.takeBack(state) ? history.size : NONE;
    }

    public int nearest(int x, int y) {
        return town.nearestTo(x, y);
    }

    public int off(int k, int l) {
        if (!town.has(KEY, k) || !town.has(LOCK, l)) {
            return NONE;
        }
        return Integer.bitCount(state.ward[k] ^ town.lockWard[l]);
    }

    public int fitting(int k) {
        if (!town.has(KEY, k) || state.holder[k] != NONE) {
            return NONE;
        }
        int bits = off(k, town.nearestTo(state.keyX[k], state.keyY[k]));
        if (bits <= 0) {
            return bits;
        }
        if (town.slow < 1) {
            return NONE;
        }
        int needed = bits * town.slow - state.lain[k] % town.slow;
        return needed > state.daysLeft() ? NONE : needed;
    }

    public int losing(int k, int l) {
        int bits = off(k, l);
        int cell = town.firstCellNearestTo(l);
        if (bits == NONE || cell == NONE) {
            return NONE;
        }
        // A KEY that fits at once still waits for the first DAY that 'slow' divides.
        int needed = Math.max(1, bits) * town.slow;
        if (needed > state.daysLeft()) {
            return NONE;
        }
        lostX = cell % SIDE;
        lostY = cell / SIDE;
        return needed;
    }

    public int lost(int what) {
        switch (what) {
            case 0: return lostX;
            case 1: return lostY;
            default: return NONE;
        }
    }

    public int match() {
        return search.matchLocks(town, state);
    }

    public int matched(int l) {
        return l < 0 || l >= MOST_LOCKS ? NONE : search.keyOf[l];
    }

    public int opens(int n) {
        return n < 0 || n > MOST_DAYS ? NONE : openBehind(n);
    }

    private int openBehind(int n) {
        guess.copy(state);
        guess.passDays(town, n);
        return guess.open;
    }

    public int way(int a, int b, int n) {
        if (!town.has(ROOM, a) || !town.has(ROOM, b) || n < 0 || n > MOST_DAYS) {
            return NONE;
        }
        return search.findWay(town, openBehind(n), a, b);
    }

    public int wayAt(int k) {
        return k < 0 || k >= search.wayLength ? NONE : search.wayLocks[k];
    }

    public int found() {
        int keys = tape.length == 4
                ? keysFoundBy(tape.byteOf(0), tape.byteOf(1), tape.byteOf(2), tape.byteOf(3)) : NONE;
        tape.length = 0;
        return keys;
    }

    private int keysFoundBy(int x, int y, int ward, int lain) {
        if (town.nearestTo(x, y) == NONE || ward > MOST_WARD) {
            return NONE;
        }
        int keys = 0;
        for (int k = 0; k < town.counts[KEY]; k++) {
            if (town.wardAfter(k, x, y, lain) == ward) {
                keys |= 1 << k;
            }
        }
        if (keys > 0) {
            // Told at once, since it is due as the TOWN was then.
            tellsCell = search.tellingCell(town, keys, lain);
        }
        return keys;
    }

    public int tells() {
        return tellsCell;
    }

    public int twins() {
        int least = NONE;
        for (int a = 0; a < town.counts[KEY]; a++) {
            for (int b = a + 1; b < town.counts[KEY]; b++) {
                int bits = Integer.bitCount(state.ward[a] ^ state.ward[b]);
                if (least == NONE || bits < least) {
                    least = bits;
                    firstTwin = a;
                    secondTwin = b;
                }
            }
        }
        return least;
    }

    public int twin(int what) {
        switch (what) {
            case 0: return firstTwin;
            case 1: return secondTwin;
            default: return NONE;
        }
    }

    public int tag(int k) {
        if (!town.has(KEY, k)) {
            return NONE;
        }
        tag.write(town, state, k);
        return tag.length;
    }

    public int byteAt(int i) {
        return i < 0 || i >= tag.length ? NONE : tag.bytes[i];
    }

    public int drawn(int n, int seed) {
        if (n < 1 || n > MOST_DAYS || town.counts[MAN] == 0) {
            return NONE;
        }
        if (state.daysLeft() > 0) {
            history.keep(state);
        }
        return state.drawDays(town, n, seed);
    }

    public int odds(int l, int n, int seed) {
        if (!town.has(LOCK, l) || n < 1 || n > MOST_SEEDS) {
            return NONE;
        }
        int times = 0;
        for (int i = 0; i < n; i++) {
            guess.copy(state);
            guess.drawDays(town, ODDS_DAYS, seed + i);
            times += guess.open >> l & 1;
        }
        return times;
    }

    public int book(int lives) {
        if (lives != 0 && lives != 1) {
            return NO_SUCH_LIVES;
        }
        boolean sound = book.read(tape, town);
        endReading();
        if (!sound) {
            return -2 - tape.place;
        }
        guess.copy(state);
        int wrong = book.judge(town, guess);
        if (lives == 1) {
            history.keep(state);
            State old = state;
            state = guess;
            guess = old;
        }
        return wrong;
    }

    public int told(int what) {
        return what < 0 || what >= book.verdict.length ? NONE : book.verdict[what];
    }

    public int sentence() {
        boolean sound = draftSentence.read(tape, town);
        endReading();
        if (!sound) {
            return -1 - tape.place;
        }
        Sentence old = sentence;
        sentence = draftSentence;
        draftSentence = old;
        return sentence.ones;
    }

    private void endReading() {
        fault = tape.fault;
        tape.length = 0;
    }

    public int said(int k) {
        if (sentence.ones == 0) {
            return NONE;
        }
        int keys = sentence.keysMeant(town, state);
        if (k == NONE) {
            return Integer.bitCount(keys);
        }
        int left = k;
        for (int i = 0; i < town.counts[KEY]; i++) {
            if ((keys >> i & 1) == 1) {
                if (left == 0) {
                    return i;
                }
                left--;
            }
        }
        return NONE;
    }

    public boolean image(int k) {
        if (k < 0 || k >= MOST_IMAGES) {
            return false;
        }
        Image place = images[k];
        place.kept = true;
        place.town.copy(town);
        place.state.copy(state);
        place.sentence.copy(sentence);
        return true;
    }

    public boolean restore(int k) {
        if (k < 0 || k >= MOST_IMAGES || !images[k].kept) {
            return false;
        }
        Image place = images[k];
        town.copy(place.town);
        state.copy(place.state);
        sentence.copy(place.sentence);
        history.clear();
        return true;
    }

    public int count(int what) {
        switch (what) {
            case 0:
            case 1:
            case 2:
            case 3: return town.counts[what];
            case 4: return town.wide;
            case 5: return town.high;
            case 6: return town.slow;
            case 7: return tape.length;
            default: return NONE;
        }
    }

    /** The first of a set told as bits; NONE, if it is empty. */
    private static int lowest(int bits) {
        return bits == 0 ? NONE : Integer.numberOfTrailingZeros(bits);
    }

    /** The bytes fed so far, and the TOKENS they are read as: one at a time, the FAULT, if any, at that one. */
    private static final class Tape {
        private final byte[] bytes = new byte[MOST_TAPE_BYTES];
        private final long[] reserved = new long[WORD_COUNT];
        private int length;
        private int most;
        private int next;
        private int kind;
        /** Where the TOKEN begins: the FAULT's place, once there is one. */
        private int place;
        private long word;
        /** Which of WORDS the TOKEN is, or NONE. */
        private int reservedWord;
        private int sign;
        private int number;
        /** What the TOKEN taken last stood for: a number, or that of whose NAME it was. */
        private int taken;
        /** The SIGN taken last. */
        private int comparison;
        private int fault;

        Tape() {
            long letters = 0;
            int at = 0;
            for (int i = 0; i < WORDS.length(); i++) {
                char c = WORDS.charAt(i);
                if (c != ' ') {
                    letters = letters << LETTER_BITS | c - 'a' + 1;
                } else if (at < WORD_COUNT) {
                    reserved[at] = letters;
                    at++;
                    letters = 0;
                }
            }
        }

        void putNumber(int n) {
            for (int shift = 24; shift >= 0 && length < MOST_TAPE_BYTES; shift -= 8) {
                bytes[length] = (byte) (n >> shift);
                length++;
            }
        }

        int byteOf(int i) {
            return i < 0 || i >= length ? NONE : bytes[i] & 255;
        }

        /** Begins to read a text that may have so many bytes. */
        void begin(int mostBytes) {
            most = mostBytes;
            next = 0;
            fault = 0;
            move();
        }

        void move() {
            while (next < length && (bytes[next] == ' ' || bytes[next] == '\n')) {
                next++;
            }
            word = 0;
            reservedWord = NONE;
            sign = NONE;
            number = 0;
            if (next >= length || next >= most) {
                kind = length > most ? TOKEN_BAD : TOKEN_END;
                place = Math.min(length, most);
                return;
            }
            place = next;
            readRun();
            if (next == place) {
                readSign();
            }
            if (kind == TOKEN_WORD) {
                reservedWord = placeInWords(word);
            }
        }

        /** Letters and digits go on together, also where that makes them no TOKEN. */
        private void readRun() {
            int letters = 0;
            int digits = 0;
            boolean goesOn = true;
            while (goesOn && next < length) {
                int c = bytes[next];
                if (c >= 'a' && c <= 'z') {
                    letters++;
                    word = word << LETTER_BITS | c - 'a' + 1;
                    next++;
                } else if (c >= '0' && c <= '9') {
                    digits++;
                    number = 10 * number + c - '0';
                    next++;
                } else {
                    goesOn = false;
                }
            }
            if (digits == 0 && letters <= LETTERS_IN_WORD) {
                kind = TOKEN_WORD;
            } else {
                kind = letters == 0 && digits <= DIGITS_IN_NUMBER ? TOKEN_NUMBER : TOKEN_BAD;
            }
        }

        private void readSign() {
            int c = next < length ? bytes[next] : NONE;
            boolean known = c == ';' || c == '<' || c == '=' || c == '>' || c == '(' || c == ')';
            kind = known ? TOKEN_SIGN : TOKEN_BAD;
            sign = known ? c : NONE;
            next++;
        }

        private int placeInWords(long letters) {
            for (int i = 0; i < WORD_COUNT; i++) {
                if (reserved[i] == letters) {
                    return i;
                }
            }
            return NONE;
        }

        /** Always false, so that a reader can hand it on. */
        boolean refuse(int faultKind) {
            fault = faultKind;
            return false;
        }

        boolean atEnd() {
            return kind == TOKEN_END;
        }

        boolean atName() {
            return kind == TOKEN_WORD && reservedWord == NONE;
        }

        boolean takeSign(int c) {
            if (sign != c) {
                return refuse(FAULT_TOKEN);
            }
            move();
            return true;
        }

        boolean takeComparison() {
            if (sign != '<' && sign != '=' && sign != '>') {
                return refuse(FAULT_TOKEN);
            }
            comparison = sign;
            move();
            return true;
        }

        boolean takeNumber(int least, int greatest) {
            if (kind != TOKEN_NUMBER) {
                return refuse(FAULT_TOKEN);
            }
            if (number < least || number > greatest) {
                return refuse(FAULT_NUMBER);
            }
            taken = number;
            move();
            return true;
        }

        boolean takeNewName(Town town, int sort) {
            if (!atName()) {
                return refuse(FAULT_TOKEN);
            }
            if (!town.addName(sort, word)) {
                return refuse(FAULT_NAME);
            }
            move();
            return true;
        }

        /** The NAME of one of the sort that has been told, but for the one that it must be unlike. */
        boolean takeToldName(Town town, int sort, int unlike) {
            if (!atName()) {
                return refuse(FAULT_TOKEN);
            }
            taken = town.numberOf(sort, word);
            if (taken == NONE || taken == unlike) {
                return refuse(FAULT_NAME);
            }
            move();
            return true;
        }
    }

    /** A TOWN as it was told: nothing in it changes by what is done. */
    private static final class Town {
        private int wide;
        private int high;
        private int slow;
        private boolean fieldTold;
        private boolean slowTold;
        /** By sort: how many there are. */
        private final int[] counts = new int[SORTS];
        /** By sort, MOST_KEYS for each. */
        private final long[] names = new long[SORTS * MOST_KEYS];
        private final int[] lockFrom = new int[MOST_LOCKS];
        private final int[] lockTo = new int[MOST_LOCKS];
        private final int[] lockX = new int[MOST_LOCKS];
        private final int[] lockY = new int[MOST_LOCKS];
        private final int[] lockWard = new int[MOST_LOCKS];
        private int openAtFirst;
        private final int[] manX = new int[MOST_MEN];
        private final int[] manY = new int[MOST_MEN];
        private final int[] keyMan = new int[MOST_KEYS];
        private final int[] keyWard = new int[MOST_KEYS];
        /** By cell, SIDE for each Y: asked for each KEY on each DAY, so it is told beforehand. */
        private final int[] nearestLock = new int[CELLS];

        Town() {
            clear();
            tellNearest();
        }

        private void clear() {
            wide = 5;
            high = 5;
            slow = 2;
            fieldTold = false;
            slowTold = false;
            openAtFirst = 0;
            Arrays.fill(counts, 0);
        }

        void copy(Town other) {
            wide = other.wide;
            high = other.high;
            slow = other.slow;
            openAtFirst = other.openAtFirst;
            System.arraycopy(other.counts, 0, counts, 0, SORTS);
            System.arraycopy(other.names, 0, names, 0, SORTS * MOST_KEYS);
            System.arraycopy(other.lockFrom, 0, lockFrom, 0, MOST_LOCKS);
            System.arraycopy(other.lockTo, 0, lockTo, 0, MOST_LOCKS);
            System.arraycopy(other.lockX, 0, lockX, 0, MOST_LOCKS);
            System.arraycopy(other.lockY, 0, lockY, 0, MOST_LOCKS);
            System.arraycopy(other.lockWard, 0, lockWard, 0, MOST_LOCKS);
            System.arraycopy(other.manX, 0, manX, 0, MOST_MEN);
            System.arraycopy(other.manY, 0, manY, 0, MOST_MEN);
            System.arraycopy(other.keyMan, 0, keyMan, 0, MOST_KEYS);
            System.arraycopy(other.keyWard, 0, keyWard, 0, MOST_KEYS);
            System.arraycopy(other.nearestLock, 0, nearestLock, 0, CELLS);
        }

        /** Reads the tape as a TOWN: how many LINES; NONE, if there is a FAULT. */
        int read(Tape tape) {
            clear();
            tape.begin(MOST_TOWN_BYTES);
            for (int line = 0; line < MOST_TOWN_BYTES; line++) {
                if (tape.atEnd()) {
                    tellNearest();
                    return line;
                }
                if (!readLine(tape) || !tape.takeSign(';')) {
                    return NONE;
                }
            }
            return NONE;
        }

        private boolean readLine(Tape tape) {
            int sort = tape.reservedWord;
            if (sort >= ROOM && sort <= KEY && counts[sort] >= MOST_OF_SORT[sort]) {
                return tape.refuse(FAULT_MOST);
            }
            switch (sort) {
                case ROOM:
                    tape.move();
                    return tape.takeNewName(this, ROOM);
                case LOCK: return readLock(tape, counts[LOCK]);
                case MAN: return readMan(tape, counts[MAN]);
                case KEY: return readKey(tape, counts[KEY]);
                case FIELD: return readField(tape);
                case SLOW: return readSlow(tape);
                default: return tape.refuse(FAULT_TOKEN);
            }
        }

        private boolean readField(Tape tape) {
            if (fieldTold || counts[LOCK] > 0 || counts[MAN] > 0) {
                return tape.refuse(FAULT_NAME);
            }
            fieldTold = true;
            tape.move();
            if (!tape.takeNumber(2, SIDE)) {
                return false;
            }
            wide = tape.taken;
            if (!tape.takeNumber(2, SIDE)) {
                return false;
            }
            high = tape.taken;
            return true;
        }

        private boolean readSlow(Tape tape) {
            if (slowTold) {
                return tape.refuse(FAULT_NAME);
            }
            slowTold = true;
            tape.move();
            if (!tape.takeNumber(1, 9)) {
                return false;
            }
            slow = tape.taken;
            return true;
        }

        private boolean readLock(Tape tape, int l) {
            tape.move();
            if (l >= MOST_LOCKS || !tape.takeNewName(this, LOCK) || !tape.takeToldName(this, ROOM, NONE)) {
                return false;
            }
            lockFrom[l] = tape.taken;
            if (!tape.takeToldName(this, ROOM, lockFrom[l])) {
                return false;
            }
            lockTo[l] = tape.taken;
            if (!readCell(tape, lockX, lockY, l) || !tape.takeNumber(0, MOST_WARD)) {
                return false;
            }
            lockWard[l] = tape.taken;
            if (tape.reservedWord == OPEN) {
                openAtFirst |= 1 << l;
                tape.move();
            }
            return true;
        }

        private boolean readMan(Tape tape, int m) {
            tape.move();
            return tape.takeNewName(this, MAN) && readCell(tape, manX, manY, m);
        }

        private boolean readKey(Tape tape, int k) {
            tape.move();
            if (k >= MOST_KEYS || !tape.takeNewName(this, KEY) || !tape.takeToldName(this, MAN, NONE)) {
                return false;
            }
            keyMan[k] = tape.taken;
            if (!tape.takeNumber(0, MOST_WARD)) {
                return false;
            }
            keyWard[k] = tape.taken;
            return true;
        }

        private boolean readCell(Tape tape, int[] xs, int[] ys, int at) {
            if (at < 0 || at >= xs.length || at >= ys.length || !tape.takeNumber(0, wide - 1)) {
                return false;
            }
            xs[at] = tape.taken;
            if (!tape.takeNumber(0, high - 1)) {
                return false;
            }
            ys[at] = tape.taken;
            return true;
        }

        /** False: the NAME is told already. */
        boolean addName(int sort, long name) {
            for (int other = 0; other < SORTS; other++) {
                if (numberOf(other, name) != NONE) {
                    return false;
                }
            }
            names[MOST_KEYS * sort + counts[sort]] = name;
            counts[sort]++;
            return true;
        }

        int numberOf(int sort, long name) {
            for (int i = 0; i < counts[sort]; i++) {
                if (names[MOST_KEYS * sort + i] == name) {
                    return i;
                }
            }
            return NONE;
        }

        boolean has(int sort, int number) {
            return number >= 0 && number < counts[sort];
        }

        boolean hasCell(int x, int y) {
            return x >= 0 && x < wide && y >= 0 && y < high;
        }

        private void tellNearest() {
            for (int cell = 0; cell < CELLS; cell++) {
                int least = FAR;
                nearestLock[cell] = NONE;
                for (int l = 0; l < counts[LOCK]; l++) {
                    int steps = Math.abs(lockX[l] - cell % SIDE) + Math.abs(lockY[l] - cell / SIDE);
                    if (steps < least) {
                        least = steps;
                        nearestLock[cell] = l;
                    }
                }
            }
        }

        int nearestTo(int x, int y) {
            return hasCell(x, y) ? nearestLock[SIDE * y + x] : NONE;
        }

        /** Of the cells by Y, then X, SIDE for each Y: the first to which the LOCK is NEAREST; NONE: there is none. */
        int firstCellNearestTo(int l) {
            for (int y = 0; y < high; y++) {
                for (int x = 0; x < wide; x++) {
                    if (nearestTo(x, y) == l) {
                        return SIDE * y + x;
                    }
                }
            }
            return NONE;
        }

        /** As bits. */
        int locksFor(int ward) {
            int bits = 0;
            for (int l = 0; l < counts[LOCK]; l++) {
                if (lockWard[l] == ward) {
                    bits |= 1 << l;
                }
            }
            return bits;
        }

        /** The NUMBER of the first LOCK in the cell, or NONE. */
        int firstLockIn(int x, int y) {
            for (int l = 0; l < counts[LOCK]; l++) {
                if (lockX[l] == x && lockY[l] == y) {
                    return l;
                }
            }
            return NONE;
        }

        /** The WARD that a KEY, as it was told, would have, having LAIN so many DAYS in a cell. */
        int wardAfter(int k, int x, int y, int lain) {
            int ward = keyWard[k];
            int l = nearestTo(x, y);
            if (l == NONE || slow < 1) {
                return ward;
            }
            int changes = Math.min(WARD_BITS, lain / slow);
            for (int i = 0; i < changes; i++) {
                ward = turn(ward, lockWard[l]);
            }
            return ward;
        }

        /** The WARD with the lowest bit changed in which it differs. */
        static int turn(int ward, int towards) {
            int differ = ward ^ towards;
            return ward ^ differ & -differ;
        }
    }

    /** All that is so on a DAY, and what changes it. */
    private static final class State {
        private int day;
        private int open;
        private int turns;
        private int openings;
        private final int[] manX = new int[MOST_MEN];
        private final int[] manY = new int[MOST_MEN];
        /** The MAN who has the KEY, or NONE. */
        private final int[] holder = new int[MOST_KEYS];
        private final int[] keyX = new int[MOST_KEYS];
        private final int[] keyY = new int[MOST_KEYS];
        private final int[] ward = new int[MOST_KEYS];
        private final int[] lain = new int[MOST_KEYS];
        private final int[] turned = new int[MOST_KEYS];
        /** What the next draw is made from, while DAYS are DRAWN. */
        private int seed;

        void begin(Town town) {
            day = 0;
            open = town.openAtFirst;
            turns = 0;
            openings = 0;
            System.arraycopy(town.manX, 0, manX, 0, MOST_MEN);
            System.arraycopy(town.manY, 0, manY, 0, MOST_MEN);
            for (int k = 0; k < town.counts[KEY]; k++) {
                int m = town.keyMan[k];
                holder[k] = m;
                keyX[k] = manX[m];
                keyY[k] = manY[m];
                ward[k] = town.keyWard[k];
                lain[k] = 0;
                turned[k] = 0;
            }
        }

        void copy(State other) {
            day = other.day;
            open = other.open;
            turns = other.turns;
            openings = other.openings;
            System.arraycopy(other.manX, 0, manX, 0, MOST_MEN);
            System.arraycopy(other.manY, 0, manY, 0, MOST_MEN);
            System.arraycopy(other.holder, 0, holder, 0, MOST_KEYS);
            System.arraycopy(other.keyX, 0, keyX, 0, MOST_KEYS);
            System.arraycopy(other.keyY, 0, keyY, 0, MOST_KEYS);
            System.arraycopy(other.ward, 0, ward, 0, MOST_KEYS);
            System.arraycopy(other.lain, 0, lain, 0, MOST_KEYS);
            System.arraycopy(other.turned, 0, turned, 0, MOST_KEYS);
        }

        int daysLeft() {
            return ALL_DAYS - day;
        }

        boolean isOpen(int l) {
            return (open >> l & 1) == 1;
        }

        /** As bits; the man NONE has those that lie. */
        int keysHeld(Town town, int m) {
            int bits = 0;
            for (int k = 0; k < town.counts[KEY]; k++) {
                if (holder[k] == m) {
                    bits |= 1 << k;
                }
            }
            return bits;
        }

        /** As bits: the KEYS that lie in a MAN's cell. */
        int keysLyingBy(Town town, int m) {
            int bits = 0;
            for (int k = 0; k < town.counts[KEY]; k++) {
                if (liesBy(k, m)) {
                    bits |= 1 << k;
                }
            }
            return bits;
        }

        private boolean liesBy(int k, int m) {
            return holder[k] == NONE && keyX[k] == manX[m] && keyY[k] == manY[m];
        }

        /** 0: an act can be done; NONE: there are no such ones; else why it can't. */
        int whyNot(Town town, int what, int m, int a, int b) {
            if (!town.has(MAN, m) || (what == WALKS ? !town.hasCell(a, b) : !town.has(KEY, a))) {
                return NONE;
            }
            switch (what) {
                case DROPS: return holder[a] == m ? 0 : 1;
                case PICKS: return liesBy(a, m) ? 0 : 1;
                case TRIES: return whyNotTry(town, m, a, b);
                case WALKS: return Math.abs(a - manX[m]) + Math.abs(b - manY[m]) == 1 ? 0 : 1;
                default: return NONE;
            }
        }

        private int whyNotTry(Town town, int m, int k, int l) {
            if (!town.has(LOCK, l)) {
                return NONE;
            }
            if (holder[k] != m) {
                return 1;
            }
            if (town.lockX[l] != manX[m] || town.lockY[l] != manY[m]) {
                return 2;
            }
            return ward[k] == town.lockWard[l] ? 0 : 3;
        }

        /** Does an act that can be done. */
        void perform(Town town, int what, int m, int a, int b) {
            switch (what) {
                case DROPS:
                    holder[a] = NONE;
                    lain[a] = 0;
                    break;
                case PICKS:
                    holder[a] = m;
                    lain[a] = 0;
                    break;
                case TRIES:
                    open ^= 1 << b;
                    break;
                default:
                    goTo(town, m, a, b);
                    break;
            }
        }

        private void goTo(Town town, int m, int x, int y) {
            manX[m] = x;
            manY[m] = y;
            for (int k = 0; k < town.counts[KEY]; k++) {
                if (holder[k] == m) {
                    keyX[k] = x;
                    keyY[k] = y;
                }
            }
        }

        /** How many DAYS went by: fewer, if all are over. */
        int passDays(Town town, int n) {
            int going = Math.min(n, daysLeft());
            for (int i = 0; i < going; i++) {
                passDay(town);
            }
            return going;
        }

        private void passDay(Town town) {
            for (int k = 0; k < town.counts[KEY]; k++) {
                if (holder[k] == NONE) {
                    lieOn(town, k);
                }
            }
            day++;
        }

        private void lieOn(Town town, int k) {
            lain[k]++;
            int l = town.nearestTo(keyX[k], keyY[k]);
            if (l == NONE || town.slow < 1 || lain[k] % town.slow != 0) {
                return;
            }
            if (ward[k] != town.lockWard[l]) {
                ward[k] = Town.turn(ward[k], town.lockWard[l]);
                turned[k]++;
                turns++;
            }
            if (ward[k] == town.lockWard[l] && !isOpen(l)) {
                open |= 1 << l;
                openings++;
            }
        }

        /** How many DAYS went by: fewer, if all are over. */
        int drawDays(Town town, int n, int firstSeed) {
            int going = Math.min(n, daysLeft());
            seed = firstSeed;
            for (int i = 0; i < going; i++) {
                for (int m = 0; m < town.counts[MAN]; m++) {
                    drawAct(town, m);
                }
                passDay(town);
            }
            return going;
        }

        /** Every draw of the document is a draw of 4. */
        private int drawOfFour() {
            seed = seed * 1103515245 + 12345;
            return (seed >>> 8) % 4;
        }

        private void drawAct(Town town, int m) {
            switch (drawOfFour()) {
                case 0:
                    drawWalk(town, m);
                    break;
                case 1:
                    attempt(town, DROPS, m, lowest(keysHeld(town, m)), 0);
                    break;
                case 2:
                    attempt(town, PICKS, m, lowest(keysLyingBy(town, m)), 0);
                    break;
                default:
                    attempt(town, TRIES, m, lowest(keysHeld(town, m)), town.firstLockIn(manX[m], manY[m]));
                    break;
            }
        }

        private void drawWalk(Town town, int m) {
            switch (drawOfFour()) {
                case 0:
                    attempt(town, WALKS, m, manX[m] + 1, manY[m]);
                    break;
                case 1:
                    attempt(town, WALKS, m, manX[m] - 1, manY[m]);
                    break;
                case 2:
                    attempt(town, WALKS, m, manX[m], manY[m] + 1);
                    break;
                default:
                    attempt(town, WALKS, m, manX[m], manY[m] - 1);
                    break;
            }
        }

        /** A KEY, LOCK or cell that is not there makes it nothing. */
        private void attempt(Town town, int what, int m, int a, int b) {
            if (whyNot(town, what, m, a, b) == 0) {
                perform(town, what, m, a, b);
            }
        }
    }

    /** The LINES of a BOOK, and what the latest one without a FAULT came to. */
    private static final class Book {
        private int lines;
        private final int[] what = new int[MOST_LINES];
        private final int[] who = new int[MOST_LINES];
        /** Of each LINE the KEY, X or N, then the LOCK or Y. */
        private final int[] first = new int[MOST_LINES];
        private final int[] second = new int[MOST_LINES];
        /** By what told() asks. */
        private final int[] verdict = {NONE, NONE, NONE, NONE};

        /** False: there is a FAULT. */
        boolean read(Tape tape, Town town) {
            lines = 0;
            tape.begin(MOST_BOOK_BYTES);
            for (int i = 0; i <= MOST_LINES; i++) {
                if (tape.atEnd()) {
                    return true;
                }
                if (!readLine(tape, town) || !tape.takeSign(';')) {
                    return false;
                }
                lines++;
            }
            return false;
        }

        private boolean readLine(Tape tape, Town town) {
            boolean day = tape.reservedWord == DAY;
            if (!day && !tape.atName()) {
                return tape.refuse(FAULT_TOKEN);
            }
            int m = town.numberOf(MAN, tape.word);
            if (!day && m == NONE) {
                return tape.refuse(FAULT_NAME);
            }
            if (lines >= MOST_LINES) {
                return tape.refuse(FAULT_MOST);
            }
            tape.move();
            who[lines] = m;
            what[lines] = day ? DAY : tape.reservedWord;
            return day ? takeFirst(tape, 1, MOST_DAYS) : readAct(tape, town);
        }

        private boolean readAct(Tape tape, Town town) {
            int act = tape.reservedWord;
            if (act < DROPS || act > WALKS) {
                return tape.refuse(FAULT_TOKEN);
            }
            tape.move();
            if (act == WALKS) {
                return takeFirst(tape, 0, SIDE - 1) && tape.takeNumber(0, SIDE - 1) && putSecond(tape.taken);
            }
            if (!tape.takeToldName(town, KEY, NONE)) {
                return false;
            }
            first[lines] = tape.taken;
            return act != TRIES || tape.takeToldName(town, LOCK, NONE) && putSecond(tape.taken);
        }

        private boolean takeFirst(Tape tape, int least, int greatest) {
            if (!tape.takeNumber(least, greatest)) {
                return false;
            }
            first[lines] = tape.taken;
            return true;
        }

        private boolean putSecond(int value) {
            second[lines] = value;
            return true;
        }

        /** Lives in the state as far as no LINE is WRONG: the LINE that is; NONE, if none is. */
        int judge(Town town, State state) {
            int why = 0;
            int line = 0;
            for (; line < lines; line++) {
                why = live(town, state, line);
                if (why != 0) {
                    break;
                }
            }
            verdict[0] = why;
            verdict[1] = line;
            verdict[2] = state.day;
            verdict[3] = state.open;
            return why == 0 ? NONE : line;
        }

        /** 0, or why the LINE is WRONG: then nothing of it is done. */
        private int live(Town town, State state, int line) {
            int a = first[line];
            int b = second[line];
            if (what[line] == DAY) {
                if (a > state.daysLeft()) {
                    return WRONG_DAYS;
                }
                state.passDays(town, a);
                return 0;
            }
            int why = state.whyNot(town, what[line], who[line], a, b);
            if (why == NONE) {
                return WRONG_CELL;
            }
            if (why > 0) {
                return 10 * (what[line] - DROPS) + why;
            }
            state.perform(town, what[line], who[line], a, b);
            return 0;
        }
    }

    /** A SENTENCE, kept with what is joined ahead of what joins it; it is asked of all KEYS at once, as bits. */
    private static final class Sentence {
        /** 0: there is no SENTENCE. */
        private int ones;
        private int steps;
        private final int[] word = new int[MOST_STEPS];
        private final int[] sign = new int[MOST_STEPS];
        private final int[] value = new int[MOST_STEPS];
        private final int[] stack = new int[MOST_STEPS];

        void copy(Sentence other) {
            ones = other.ones;
            steps = other.steps;
            System.arraycopy(other.word, 0, word, 0, MOST_STEPS);
            System.arraycopy(other.sign, 0, sign, 0, MOST_STEPS);
            System.arraycopy(other.value, 0, value, 0, MOST_STEPS);
        }

        /** False: there is a FAULT. */
        boolean read(Tape tape, Town town) {
            ones = 0;
            steps = 0;
            tape.begin(MOST_SENTENCE_BYTES);
            return readCond(tape, town, 1) && (tape.atEnd() || tape.refuse(FAULT_TOKEN));
        }

        private boolean readCond(Tape tape, Town town, int level) {
            if (!readAll(tape, town, level)) {
                return false;
            }
            for (int i = 0; i < MOST_ONES && tape.reservedWord == OR; i++) {
                tape.move();
                if (!readAll(tape, town, level)) {
                    return false;
                }
                put(OR, NONE, NONE);
            }
            return true;
        }

        private boolean readAll(Tape tape, Town town, int level) {
            if (!readOne(tape, town, level)) {
                return false;
            }
            for (int i = 0; i < MOST_ONES && tape.reservedWord == AND; i++) {
                tape.move();
                if (!readOne(tape, town, level)) {
                    return false;
                }
                put(AND, NONE, NONE);
            }
            return true;
        }

        private boolean readOne(Tape tape, Town town, int level) {
            int begins = tape.reservedWord;
            boolean bracket = tape.sign == '(';
            if (!bracket && (begins < NOT || begins > NUMBER)) {
                return tape.refuse(FAULT_TOKEN);
            }
            if (ones >= MOST_ONES || level > MOST_WITHIN) {
                return tape.refuse(FAULT_MOST);
            }
            ones++;
            tape.move();
            if (bracket) {
                return readCond(tape, town, level + 1) && tape.takeSign(')');
            }
            switch (begins) {
                case NOT: return readOne(tape, town, level + 1) && put(NOT, NONE, NONE);
                case LYING: return put(LYING, NONE, NONE);
                case OF:
                case HAD: return tape.takeToldName(town, MAN, NONE) && put(begins, NONE, tape.taken);
                case FITS:
                case NEAR: return tape.takeToldName(town, LOCK, NONE) && put(begins, NONE, tape.taken);
                default:
                    return tape.takeComparison() && tape.takeNumber(0, FAR) && put(begins, tape.comparison, tape.taken);
            }
        }

        /** Always true, so that a reader can hand it on: there are rows for all that 20 ONES can need. */
        private boolean put(int stepWord, int stepSign, int stepValue) {
            if (steps < MOST_STEPS) {
                word[steps] = stepWord;
                sign[steps] = stepSign;
                value[steps] = stepValue;
                steps++;
            }
            return true;
        }

        /** As bits. */
        int keysMeant(Town town, State state) {
            int all = (1 << town.counts[KEY]) - 1;
            int height = 0;
            for (int i = 0; i < steps; i++) {
                if (word[i] == NOT && height >= 1) {
                    stack[height - 1] ^= all;
                } else if (word[i] == AND && height >= 2) {
                    height--;
                    stack[height - 1] &= stack[height];
                } else if (word[i] == OR && height >= 2) {
                    height--;
                    stack[height - 1] |= stack[height];
                } else if (height < MOST_STEPS) {
                    stack[height] = keysOfStep(town, state, i);
                    height++;
                }
            }
            return height < 1 ? 0 : stack[0];
        }

        private int keysOfStep(Town town, State state, int step) {
            int bits = 0;
            for (int k = 0; k < town.counts[KEY]; k++) {
                if (holds(town, state, step, k)) {
                    bits |= 1 << k;
                }
            }
            return bits;
        }

        private boolean holds(Town town, State state, int step, int k) {
            int due = value[step];
            switch (word[step]) {
                case LYING: return state.holder[k] == NONE;
                case OF: return town.keyMan[k] == due;
                case HAD: return state.holder[k] == due;
                case FITS: return (town.locksFor(state.ward[k]) >> due & 1) == 1;
                case NEAR: return town.nearestTo(state.keyX[k], state.keyY[k]) == due;
                case WARD: return compares(state.ward[k], sign[step], due);
                case LAIN: return compares(state.lain[k], sign[step], due);
                case TURNED: return compares(state.turned[k], sign[step], due);
                default: return compares(k, sign[step], due);
            }
        }

        private static boolean compares(int left, int by, int right) {
            return by == '<' ? left < right : by == '>' ? left > right : left == right;
        }
    }

    /** The states ahead of the latest acts, in a ring. */
    private static final class History {
        private final State[] states = new State[MOST_UNDONE];
        private int size;
        private int next;

        History() {
            for (int i = 0; i < MOST_UNDONE; i++) {
                states[i] = new State();
            }
        }

        void clear() {
            size = 0;
        }

        void keep(State state) {
            states[next].copy(state);
            next = (next + 1) % MOST_UNDONE;
            size = Math.min(size + 1, MOST_UNDONE);
        }

        /** False: none is kept. */
        boolean takeBack(State state) {
            if (size == 0) {
                return false;
            }
            next = (next + MOST_UNDONE - 1) % MOST_UNDONE;
            size--;
            state.copy(states[next]);
            return true;
        }
    }

    /** What image() keeps in one place. */
    private static final class Image {
        private boolean kept;
        private final Town town = new Town();
        private final State state = new State();
        private final Sentence sentence = new Sentence();
    }

    /** What is sought among many, with the rows it needs, and what was found last. */
    private static final class Search {
        private final int[] shut = new int[MOST_LOCKS];
        /** By how many LOCKS that are shut have their KEYS, KEY_SETS for each, and which KEYS they have. */
        private final int[] fewest = new int[(MOST_LOCKS + 1) * KEY_SETS];
        private final int[] keyOf = new int[MOST_LOCKS];
        private final int[] distance = new int[MOST_ROOMS];
        private final int[] wayLocks = new int[MOST_ROOMS];
        private int wayLength;
        private final int[] wards = new int[MOST_KEYS];

        Search() {
            Arrays.fill(keyOf, NONE);
        }

        /** The fewest bits in all; NONE, if there are too few KEYS. */
        int matchLocks(Town town, State state) {
            int shuts = 0;
            for (int l = 0; l < town.counts[LOCK]; l++) {
                if (!state.isOpen(l)) {
                    shut[shuts] = l;
                    shuts++;
                }
            }
            int keys = town.counts[KEY];
            if (keys < shuts) {
                return NONE;
            }
            Arrays.fill(fewest, 0);
            for (int i = shuts - 1; i >= 0; i--) {
                for (int had = 0; had < 1 << keys; had++) {
                    if (Integer.bitCount(had) == i) {
                        fewest[i * KEY_SETS + had] = fewestFrom(town, state, i, had);
                    }
                }
            }
            chooseKeys(town, state, shuts);
            return fewest[0];
        }

        private int fewestFrom(Town town, State state, int i, int had) {
            int least = FAR;
            for (int k = 0; k < town.counts[KEY]; k++) {
                if ((had >> k & 1) == 0) {
                    least = Math.min(least, bitsWith(town, state, i, had, k));
                }
            }
            return least;
        }

        /** The bits from the i-th shut LOCK on, if that one gets this KEY. */
        private int bitsWith(Town town, State state, int i, int had, int k) {
            int bits = Integer.bitCount(state.ward[k] ^ town.lockWard[shut[i]]);
            return bits + fewest[(i + 1) * KEY_SETS + (had | 1 << k)];
        }

        private void chooseKeys(Town town, State state, int shuts) {
            Arrays.fill(keyOf, NONE);
            int had = 0;
            for (int i = 0; i < shuts; i++) {
                int best = fewest[i * KEY_SETS + had];
                int k = 0;
                while (k < town.counts[KEY] && ((had >> k & 1) == 1 || bitsWith(town, state, i, had, k) != best)) {
                    k++;
                }
                if (k < town.counts[KEY]) {
                    keyOf[shut[i]] = k;
                    had |= 1 << k;
                }
            }
        }

        /** How many LOCKS the WAY has; NONE, if there is none. */
        int findWay(Town town, int open, int from, int to) {
            tellDistances(town, open, to);
            if (distance[from] == FAR) {
                return NONE;
            }
            wayLength = distance[from];
            int room = from;
            for (int i = 0; i < wayLength; i++) {
                int l = 0;
                while (l < town.counts[LOCK] && !leadsOn(town, open, l, room)) {
                    l++;
                }
                if (l >= town.counts[LOCK]) {
                    return NONE;
                }
                wayLocks[i] = l;
                room = behind(town, l, room);
            }
            return wayLength;
        }

        private void tellDistances(Town town, int open, int to) {
            Arrays.fill(distance, FAR);
            distance[to] = 0;
            for (int round = 0; round < town.counts[ROOM]; round++) {
                for (int l = 0; l < town.counts[LOCK]; l++) {
                    if ((open >> l & 1) == 1) {
                        int a = town.lockFrom[l];
                        int b = town.lockTo[l];
                        distance[a] = Math.min(distance[a], distance[b] + 1);
                        distance[b] = Math.min(distance[b], distance[a] + 1);
                    }
                }
            }
        }

        private boolean leadsOn(Town town, int open, int l, int room) {
            boolean beside = town.lockFrom[l] == room || town.lockTo[l] == room;
            return beside && (open >> l & 1) == 1 && distance[behind(town, l, room)] == distance[room] - 1;
        }

        private static int behind(Town town, int l, int room) {
            return town.lockFrom[l] == room ? town.lockTo[l] : town.lockFrom[l];
        }

        /** TELLS for some KEYS, as bits: SIDE for each Y, and X. */
        int tellingCell(Town town, int keys, int lain) {
            int best = NONE;
            int least = FAR;
            for (int y = 0; y < town.high; y++) {
                for (int x = 0; x < town.wide; x++) {
                    int left = mostLeft(town, keys, SIDE * y + x, lain);
                    if (left < least) {
                        least = left;
                        best = SIDE * y + x;
                    }
                }
            }
            return best;
        }

        private int mostLeft(Town town, int keys, int cell, int lain) {
            for (int k = 0; k < town.counts[KEY]; k++) {
                wards[k] = town.wardAfter(k, cell % SIDE, cell / SIDE, lain);
            }
            int most = 0;
            for (int a = 0; a < town.counts[KEY]; a++) {
                int alike = 0;
                for (int b = 0; b < town.counts[KEY]; b++) {
                    alike += (keys >> b & 1) == 1 && wards[b] == wards[a] ? 1 : 0;
                }
                most = Math.max(most, alike);
            }
            return most;
        }
    }

    /** The bytes of the latest TAG. */
    private static final class Tag {
        /** The longest: three NAMES of 7, ' had by ', ' fits '. */
        private final byte[] bytes = new byte[40];
        private int length;

        void write(Town town, State state, int k) {
            length = 0;
            putName(town, KEY, k);
            int m = state.holder[k];
            if (m != NONE) {
                putText(" had by ");
                putName(town, MAN, m);
            } else {
                putText(" lies at ");
                putByte('0' + state.keyX[k]);
                putByte(' ');
                putByte('0' + state.keyY[k]);
            }
            int l = lowest(town.locksFor(state.ward[k]));
            if (l != NONE) {
                putText(" fits ");
                putName(town, LOCK, l);
            }
        }

        private void putName(Town town, int sort, int number) {
            long name = town.names[MOST_KEYS * sort + number];
            for (int shift = LETTER_BITS * (LETTERS_IN_WORD - 1); shift >= 0; shift -= LETTER_BITS) {
                int letter = (int) (name >> shift) & LETTER_MASK;
                if (letter > 0) {
                    putByte('a' + letter - 1);
                }
            }
        }

        private void putText(String text) {
            for (int i = 0; i < text.length(); i++) {
                putByte(text.charAt(i));
            }
        }

        private void putByte(int b) {
            if (length < bytes.length) {
                bytes[length] = (byte) b;
                length++;
            }
        }
    }
}
