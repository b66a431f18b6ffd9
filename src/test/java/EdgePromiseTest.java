/** Promises 1 to 20: each sentence that names a boundary, tested by itself. */
public final class EdgePromiseTest {
    private static final String ROOMS = "room a;room b;";
    /** No number of anything. */
    private static final int[] WILD = {-1, 8, 64, Integer.MAX_VALUE, Integer.MIN_VALUE};

    public static void main(String[] args) {
        calls();
        newObject();
        feedOrder();
        feedFull();
        end();
        endRefused();
        tapeEmptyThen();
        townLines();
        townStays();
        faultKinds();
        faultOfMinus1000();
        faultNone();
        lock();
        key();
        keyLies();
        keyThrows();
        man();
        manThrows();
        now();
        nowCounts();
        drop();
        pick();
        tries();
        walk();
        days();
        daysNone();
        undoKinds();
        undoMany();
        undoNone();
        nearest();
        off();
        fitting();
        losing();
        lost();
        lostStays();
        Check.finish();
    }

    private static void calls() {
        Check.of("An object is used for at most 512 calls after it has been made");
        LostKeys x = new LostKeys();
        for (int i = 0; i < 255; i++) {
            x.feed(0x736c6f77, 0x20393b20, 0x20202020, 0x20202020, 0x20202020);
            x.end(20);
        }
        Check.due("town() as the 511th", x.town(), 1);
        Check.due("count(6) as the 512th", x.count(6), 9);
        LostKeys y = Check.town("man m 0 0;key k m 0;");
        for (int i = 0; i < 250; i++) {
            y.drop(0, 0);
            y.pick(0, 0);
        }
        Check.due("undo() behind 500 acts", y.undo(), 7);
        Check.due("key(0, 1)", y.key(0, 1), -1);
    }

    private static void newObject() {
        Check.of("An empty TOWN; an empty tape.");
        LostKeys x = new LostKeys();
        for (int what = 0; what < 4; what++) {
            Check.due("count(" + what + ")", x.count(what), 0);
        }
        Check.due("count(4)", x.count(4), 5);
        Check.due("count(5)", x.count(5), 5);
        Check.due("count(6)", x.count(6), 2);
        Check.due("count(7)", x.count(7), 0);
        Check.due("end(1)", x.end(1), false);
        for (int what = 0; what < 5; what++) {
            Check.due("now(" + what + ")", x.now(what), 0);
        }
        String empty = Check.seen(x);
        Check.due("town() of the empty tape", x.town(), 0);
        Check.due("all is as in a new object", Check.seen(x).equals(empty), true);
        Check.due("all but the object is alike", Check.seen(new LostKeys()).equals(empty), true);
    }

    private static void feedOrder() {
        Check.of("Twenty bytes come behind the tape, of each number the highest first");
        LostKeys x = new LostKeys();
        // "slow", " 9;r", "oom ", "abcd", "efg;"
        Check.due("feed()", x.feed(0x736c6f77, 0x20393b72, 0x6f6f6d20, 0x61626364, 0x6566673b), 20);
        Check.due("town()", x.town(), 2);
        // The highest bit of a byte counts.
        x.feed(0xf36c6f77, 0x20393b20, 0x20202020, 0x20202020, 0x20202020);
        Check.due("town() with byte 243", x.town(), -1);
        x.feed(0x736c6f77, 0x20398020, 0x20202020, 0x20202020, 0x20202020);
        Check.due("town() with byte 128", x.town(), -1 - 6);
        x.feed(0x20202020, 0x20202020, 0x20202020, 0x20202020, 0x2020736c);
        x.feed(0x6f772039, 0x3b202020, 0x20202020, 0x20202020, 0x20202020);
        Check.due("town() over two", x.town(), 1);
        // Behind what end() left, not behind what was there.
        x.feed(0x736c6f77, 0x20393b21, 0x21212121, 0x21212121, 0x21212121);
        x.end(7);
        x.feed(0x726f6f6d, 0x20612020, 0x3b202020, 0x20202020, 0x20202020);
        Check.due("count(7)", x.count(7), 27);
        Check.due("town() behind an end()", x.town(), 2);
    }

    private static void feedFull() {
        Check.of("how many it has; NONE, and none come, if it would have more than 940");
        LostKeys x = new LostKeys();
        for (int i = 1; i <= 47; i++) {
            Check.due("feed()", x.feed(0x20202020, 0x20202020, 0x20202020, 0x20202020, 0x20202020), 20 * i);
        }
        Check.due("feed() of 960", x.feed(0, 0, 0, 0, 0), -1);
        Check.due("count(7)", x.count(7), 940);
        x.end(921);
        Check.due("feed() of 941", x.feed(0, 0, 0, 0, 0), -1);
        Check.due("count(7)", x.count(7), 921);
        x.end(920);
        Check.due("feed() of 940", x.feed(0x20202020, 0x20202020, 0x20202020, 0x20202020, 0x20202020), 940);
        // The refused zeros are not there: they would be a FAULT ahead of 900.
        x.end(900);
        Check.due("town() of blanks", x.town(), 0);
    }

    private static void end() {
        Check.of("The tape has its first n bytes alone: true");
        LostKeys x = new LostKeys();
        Check.due("end(0) of an empty one", x.end(0), true);
        x.feed(0x726f6f6d, 0x20613b72, 0x6f6f6d20, 0x623b726f, 0x6f6d2063);
        Check.due("end(20)", x.end(20), true);
        Check.due("count(7)", x.count(7), 20);
        Check.due("end(14)", x.end(14), true);
        Check.due("end(14) again", x.end(14), true);
        Check.due("count(7)", x.count(7), 14);
        Check.due("town()", x.town(), 2);
        x.feed(1, 2, 3, 4, 5);
        Check.due("end(0)", x.end(0), true);
        Check.due("count(7)", x.count(7), 0);
    }

    private static void endRefused() {
        Check.of("false, if it has not so many, or n is below 0");
        LostKeys x = new LostKeys();
        Check.due("end(1) of an empty one", x.end(1), false);
        Check.due("end(-1) of an empty one", x.end(-1), false);
        x.feed(1, 2, 3, 4, 5);
        for (int n : new int[] {21, 940, 941, Integer.MAX_VALUE, -1, Integer.MIN_VALUE}) {
            Check.due("end(" + n + ")", x.end(n), false);
            Check.due("count(7)", x.count(7), 20);
        }
        x.end(5);
        Check.due("end(20) behind end(5)", x.end(20), false);
        Check.due("count(7)", x.count(7), 5);
    }

    private static void tapeEmptyThen() {
        Check.of("The tape (empty then, here and below) is the TOWN now");
        LostKeys x = Check.town(TownTest.SHOP);
        Check.due("count(7) behind town()", x.count(7), 0);
        Check.tape(x, "room");
        x.town();
        Check.due("count(7) behind town() with a FAULT", x.count(7), 0);
        Check.tape(x, "day 1;");
        x.book(0);
        Check.due("count(7) behind book()", x.count(7), 0);
        Check.tape(x, "day 0;");
        x.book(1);
        Check.due("count(7) behind book() with a FAULT", x.count(7), 0);
        Check.tape(x, "lying");
        x.sentence();
        Check.due("count(7) behind sentence()", x.count(7), 0);
        Check.tape(x, "lyin");
        x.sentence();
        Check.due("count(7) behind sentence() with a FAULT", x.count(7), 0);
        Check.tape(x, "0000");
        x.found();
        Check.due("count(7) behind found() of NONE", x.count(7), 0);
        Check.bytes(x, new byte[] {0, 0, 4, 0});
        x.found();
        Check.due("count(7) behind found()", x.count(7), 0);
    }

    private static void townLines() {
        Check.of("is the TOWN now: how many LINES; -1 less the place of a FAULT");
        Check.dueTown("", 0, 0);
        Check.dueTown("room a;", 1, 0);
        Check.dueTown("!", -1, 1);
        Check.dueTown(" !", -2, 1);
        Check.dueTown(Check.repeat(" ", 899) + "!", -900, 1);
        Check.dueTown(Check.repeat(" ", 900) + "!", -901, 1);
        Check.dueTown("field 2 2;room a;room b;room c;room d;room e;room f;lock la a b 0 0 0;lock lb a b 0 0 0;lock lc a b 0 0 0;lock ld a b 0 0 0;"
                + "lock le a b 0 0 0;lock lf a b 0 0 0;man ma 0 0;man mb 0 0;man mc 0 0;man md 0 0;man me 0 0;key ka ma 0;key kb ma 0;"
                + "key kc ma 0;key kd ma 0;key ke ma 0;key kf ma 0;key kg ma 0;key kh ma 0;slow 1;", 27, 0);
    }

    private static void townStays() {
        Check.of("-1 less the place of a FAULT: it stays.");
        LostKeys x = Check.town(TownTest.SHOP);
        x.drop(0, 0);
        x.days(3);
        Check.tape(x, "lying");
        x.sentence();
        String before = Check.seen(x);
        for (String text : new String[] {"!", "field 6 6;man z 5 5;key y z 9;slow 7;room", "room a;room a;", "slow 0;", ";"}) {
            Check.tape(x, text);
            Check.due("town() has a FAULT", x.town() < 0, true);
            Check.due("fault() is told", x.fault() > 0, true);
            Check.tape(x, "lying");
            x.sentence();
            Check.due("all stays behind \"" + text + "\"", Check.seen(x).equals(before), true);
        }
        Check.due("undo()", x.undo(), 1);
        Check.due("now(0)", x.now(0), 0);
    }

    private static void faultKinds() {
        Check.of("The kind of the FAULT of the latest town(), book() or sentence()");
        LostKeys x = Check.town(TownTest.SHOP);
        Check.due("fault() of none", x.fault(), 0);
        Check.dueTown("!", -1, 1);
        Check.dueTown("slow 0;", -1 - 5, 2);
        Check.dueTown("slow 1;slow 1;", -1 - 7, 3);
        Check.dueTown("room a;room b;room c;room d;room e;room f;room g;", -1 - 42, 4);
        Check.dueBook(x, 1, "!", -2, 1);
        Check.dueSentence(x, "lying", 1, 0);
        Check.dueBook(x, 1, "day 0;", -2 - 4, 2);
        Check.dueBook(x, 0, "day 1;", -1, 0);
        Check.dueBook(x, 1, "eve", -2, 3);
        Check.dueBook(x, 1, Check.repeat("day 1;", 41), -2 - 240, 4);
        Check.dueSentence(x, "!", -1, 1);
        Check.dueSentence(x, "of eve", -1 - 3, 3);
        Check.dueSentence(x, Check.repeat("not ", 9), -1 - 32, 4);
        // What other calls refuse is no FAULT.
        x.days(0);
        x.found();
        x.restore(1);
        Check.due("fault() behind other calls", x.fault(), 4);
        // Nor is a LINE that is WRONG.
        Check.dueBook(x, 0, "bob drops brass;", 0, 0);
    }

    private static void faultOfMinus1000() {
        Check.of("(a book() of -1000 leaves it)");
        LostKeys x = Check.town(TownTest.SHOP);
        Check.due("book(2)", x.book(2), -1000);
        Check.due("fault() of none", x.fault(), 0);
        Check.tape(x, "day 0;");
        x.book(0);
        for (int lives : new int[] {-1, 2, Integer.MAX_VALUE, Integer.MIN_VALUE}) {
            Check.due("book(" + lives + ")", x.book(lives), -1000);
            Check.due("fault()", x.fault(), 2);
        }
    }

    private static void faultNone() {
        Check.of("0 without one and ahead of any");
        LostKeys x = new LostKeys();
        Check.due("fault() ahead of any", x.fault(), 0);
        x.sentence();
        Check.due("fault() of an empty sentence", x.fault(), 1);
        x.book(0);
        Check.due("fault() of an empty book", x.fault(), 0);
        x.sentence();
        x.town();
        Check.due("fault() of an empty town", x.fault(), 0);
    }

    private static void lock() {
        Check.of("Of a LOCK: 0, 1 its ROOMS, 2 X, 3 Y, 4 WARD, 5 open (1, 0). NONE: no such ones.");
        LostKeys x = Check.town("field 6 6;room a;room b;room c;lock la c b 5 4 63 open;lock lb a c 0 5 0;");
        int[][] want = {{2, 1, 5, 4, 63, 1}, {0, 2, 0, 5, 0, 0}};
        for (int l = 0; l < 2; l++) {
            for (int what = 0; what < 6; what++) {
                Check.due("lock(" + l + ", " + what + ")", x.lock(l, what), want[l][what]);
            }
            Check.due("lock(" + l + ", 6)", x.lock(l, 6), -1);
        }
        Check.due("lock(2, 0)", x.lock(2, 0), -1);
        for (int wild : WILD) {
            Check.due("lock(" + wild + ", 0)", x.lock(wild, 0), -1);
            Check.due("lock(0, " + wild + ")", x.lock(0, wild), -1);
        }
        Check.due("lock(0, 0) without LOCKS", new LostKeys().lock(0, 0), -1);
    }

    private static void key() {
        Check.of("0 whose it was at first, 1 who has it (NONE: it lies), 2 X, 3 Y, where it is");
        LostKeys x = Check.town("field 6 6;man m 5 0;man n 5 0;key k m 0;");
        dueKey(x, 0, 0, 5, 0);
        x.walk(0, 4, 0);
        dueKey(x, 0, 0, 4, 0);
        x.walk(0, 5, 0);
        x.drop(0, 0);
        x.walk(0, 5, 1);
        dueKey(x, 0, -1, 5, 0);
        x.pick(1, 0);
        dueKey(x, 0, 1, 5, 0);
    }

    private static void dueKey(LostKeys x, int... want) {
        for (int what = 0; what < want.length; what++) {
            Check.due("key(0, " + what + ")", x.key(0, what), want[what]);
        }
    }

    private static void keyLies() {
        Check.of("5 DAYS that it has LAIN (0, if it does not lie), 6 how often it TURNED, 7 LOCKS that it fits, as bits");
        LostKeys x = Check.town(ROOMS + "lock c a b 0 0 3;lock d a b 0 0 3;lock e a b 4 4 1;lock f a b 4 4 3;lock g a b 4 4 3;lock h a b 4 4 3;man m 0 0;key k m 0;slow 2;");
        Check.due("key(0, 7)", x.key(0, 7), 0);
        x.days(9);
        Check.due("key(0, 5)", x.key(0, 5), 0);
        x.drop(0, 0);
        x.days(3);
        Check.due("key(0, 5)", x.key(0, 5), 3);
        Check.due("key(0, 6)", x.key(0, 6), 1);
        Check.due("key(0, 7)", x.key(0, 7), 4);
        x.days(1);
        Check.due("key(0, 6)", x.key(0, 6), 2);
        Check.due("key(0, 7)", x.key(0, 7), 1 + 2 + 8 + 16 + 32);
        x.pick(0, 0);
        Check.due("key(0, 5)", x.key(0, 5), 0);
        Check.due("key(0, 6)", x.key(0, 6), 2);
    }

    private static void keyThrows() {
        Check.of("LOCKS that it fits, as bits. NoSuchElementException: no such ones.");
        LostKeys x = Check.town("man m 0 0;key k m 0;key l m 0;");
        Check.due("key(1, 7) throws", Check.throwsKey(x, 1, 7), false);
        Check.due("key(2, 0) throws", Check.throwsKey(x, 2, 0), true);
        for (int wild : WILD) {
            Check.due("key(" + wild + ", 0) throws", Check.throwsKey(x, wild, 0), true);
            Check.due("key(0, " + wild + ") throws", Check.throwsKey(x, 0, wild), true);
        }
        Check.due("key(0, 0) without KEYS throws", Check.throwsKey(new LostKeys(), 0, 0), true);
    }

    private static void man() {
        Check.of("Of a MAN: 0 X, 1 Y, 2 KEYS that he has, as bits, 3 KEYS that lie in his cell, as bits.");
        LostKeys x = Check.town("field 6 6;man m 5 4;man n 5 4;man o 5 5;key ka m 0;key kb n 0;key kc m 0;key kd o 0;key ke m 0;key kf m 0;key kg m 0;key kh m 0;");
        Check.due("man(0, 0)", x.man(0, 0), 5);
        Check.due("man(0, 1)", x.man(0, 1), 4);
        Check.due("man(0, 2)", x.man(0, 2), 255 - 2 - 8);
        Check.due("man(0, 3)", x.man(0, 3), 0);
        x.drop(0, 7);
        x.drop(1, 1);
        x.drop(2, 3);
        Check.due("man(0, 2)", x.man(0, 2), 127 - 2 - 8);
        Check.due("man(1, 2)", x.man(1, 2), 0);
        Check.due("man(0, 3)", x.man(0, 3), 128 + 2);
        Check.due("man(1, 3)", x.man(1, 3), 128 + 2);
        Check.due("man(2, 3)", x.man(2, 3), 8);
    }

    private static void manThrows() {
        Check.of("3 KEYS that lie in his cell, as bits. NoSuchElementException: no such ones.");
        LostKeys x = Check.town("man m 0 0;man n 0 0;");
        Check.due("man(1, 3) throws", Check.throwsMan(x, 1, 3), false);
        Check.due("man(1, 4) throws", Check.throwsMan(x, 1, 4), true);
        Check.due("man(2, 0) throws", Check.throwsMan(x, 2, 0), true);
        for (int wild : WILD) {
            Check.due("man(" + wild + ", 0) throws", Check.throwsMan(x, wild, 0), true);
            Check.due("man(0, " + wild + ") throws", Check.throwsMan(x, 0, wild), true);
        }
        Check.due("man(0, 0) without MEN throws", Check.throwsMan(new LostKeys(), 0, 0), true);
    }

    private static void now() {
        Check.of("0 the DAY, 1 KEYS that lie, 2 LOCKS that are open, as bits");
        LostKeys x = Check.town(ROOMS + "lock c a b 0 0 1 open;lock d a b 0 0 2;lock e a b 0 0 3 open;man m 0 0;key k m 1;key l m 2;key n m 3;");
        Check.due("now(1)", x.now(1), 0);
        Check.due("now(2)", x.now(2), 5);
        x.drop(0, 2);
        Check.due("now(1)", x.now(1), 4);
        x.drop(0, 0);
        Check.due("now(1)", x.now(1), 5);
        x.tries(0, 1, 1);
        Check.due("now(2)", x.now(2), 7);
        x.days(60);
        Check.due("now(0)", x.now(0), 60);
    }

    private static void nowCounts() {
        Check.of("3 how often KEYS TURNED so far, 4 how often LOCKS were opened by KEYS that lay so far. NONE for another what.");
        LostKeys x = Check.town(ROOMS + "lock c a b 0 0 7;man m 0 0;key k m 0;key l m 6;slow 1;");
        x.drop(0, 0);
        x.drop(0, 1);
        x.days(1);
        Check.due("now(3)", x.now(3), 2);
        Check.due("now(4)", x.now(4), 1);
        x.days(9);
        Check.due("now(3)", x.now(3), 4);
        x.pick(0, 0);
        x.tries(0, 0, 0);
        Check.due("now(4): shut by a MAN", x.now(4), 1);
        x.tries(0, 0, 0);
        Check.due("now(4): opened by a MAN", x.now(4), 1);
        x.tries(0, 0, 0);
        x.days(1);
        Check.due("now(4): opened by a KEY that lay", x.now(4), 2);
        for (int wild : new int[] {-1, 5, 6, Integer.MAX_VALUE, Integer.MIN_VALUE}) {
            Check.due("now(" + wild + ")", x.now(wild), -1);
        }
    }

    private static void drop() {
        Check.of("He DROPS a KEY: 0, or why not; NONE: no such ones.");
        LostKeys x = Check.town("man m 0 0;man n 0 0;key k m 0;");
        String before = Check.seen(x);
        Check.due("drop(2, 0)", x.drop(2, 0), -1);
        Check.due("drop(0, 1)", x.drop(0, 1), -1);
        for (int wild : WILD) {
            Check.due("drop(" + wild + ", 0)", x.drop(wild, 0), -1);
            Check.due("drop(0, " + wild + ")", x.drop(0, wild), -1);
        }
        Check.due("drop(1, 0)", x.drop(1, 0), 1);
        Check.due("all stays", Check.seen(x).equals(before), true);
        Check.due("undo()", x.undo(), -1);
        Check.due("drop(0, 0)", x.drop(0, 0), 0);
        Check.due("undo()", x.undo(), 0);
    }

    private static void pick() {
        Check.of("He PICKS it: 0, or why not; NONE: no such ones.");
        LostKeys x = Check.town("man m 0 0;man n 1 0;key k m 0;");
        x.drop(0, 0);
        String before = Check.seen(x);
        Check.due("pick(2, 0)", x.pick(2, 0), -1);
        Check.due("pick(0, 1)", x.pick(0, 1), -1);
        for (int wild : WILD) {
            Check.due("pick(" + wild + ", 0)", x.pick(wild, 0), -1);
            Check.due("pick(0, " + wild + ")", x.pick(0, wild), -1);
        }
        Check.due("pick(1, 0)", x.pick(1, 0), 1);
        Check.due("all stays", Check.seen(x).equals(before), true);
        Check.due("pick(0, 0)", x.pick(0, 0), 0);
        Check.due("undo()", x.undo(), 1);
    }

    private static void tries() {
        Check.of("He TRIES it: 0, or why not; NONE: no such ones.");
        LostKeys x = Check.town(ROOMS + "lock c a b 0 0 1;man m 0 0;man n 4 4;key k m 1;key l n 2;");
        String before = Check.seen(x);
        Check.due("tries(2, 0, 0)", x.tries(2, 0, 0), -1);
        Check.due("tries(0, 2, 0)", x.tries(0, 2, 0), -1);
        Check.due("tries(0, 0, 1)", x.tries(0, 0, 1), -1);
        // NONE also where there is a why not.
        Check.due("tries(1, 0, 1)", x.tries(1, 0, 1), -1);
        for (int wild : WILD) {
            Check.due("tries(" + wild + ", 0, 0)", x.tries(wild, 0, 0), -1);
            Check.due("tries(0, " + wild + ", 0)", x.tries(0, wild, 0), -1);
            Check.due("tries(0, 0, " + wild + ")", x.tries(0, 0, wild), -1);
        }
        Check.due("tries(1, 0, 0)", x.tries(1, 0, 0), 1);
        Check.due("tries(1, 1, 0)", x.tries(1, 1, 0), 2);
        Check.due("all stays", Check.seen(x).equals(before), true);
        Check.due("undo()", x.undo(), -1);
        Check.due("tries(0, 0, 0)", x.tries(0, 0, 0), 0);
        Check.due("undo()", x.undo(), 0);
        Check.due("now(2)", x.now(2), 0);
    }

    private static void walk() {
        Check.of("He WALKS: 0, or why not; NONE: no such ones.");
        LostKeys x = Check.town("field 2 3;man m 0 0;man n 1 2;");
        String before = Check.seen(x);
        Check.due("walk(0, -1, 0)", x.walk(0, -1, 0), -1);
        Check.due("walk(0, 0, -1)", x.walk(0, 0, -1), -1);
        Check.due("walk(1, 2, 2)", x.walk(1, 2, 2), -1);
        Check.due("walk(1, 1, 3)", x.walk(1, 1, 3), -1);
        Check.due("walk(2, 0, 1)", x.walk(2, 0, 1), -1);
        for (int wild : WILD) {
            Check.due("walk(" + wild + ", 1, 0)", x.walk(wild, 1, 0), -1);
            Check.due("walk(0, " + wild + ", 0)", x.walk(0, wild, 0), -1);
            Check.due("walk(0, 0, " + wild + ")", x.walk(0, 0, wild), -1);
        }
        Check.due("walk(0, 0, 0)", x.walk(0, 0, 0), 1);
        Check.due("walk(0, 1, 1)", x.walk(0, 1, 1), 1);
        Check.due("walk(0, 0, 2)", x.walk(0, 0, 2), 1);
        Check.due("all stays", Check.seen(x).equals(before), true);
        Check.due("undo()", x.undo(), -1);
        Check.due("walk(1, 0, 2)", x.walk(1, 0, 2), 0);
        Check.due("walk(0, 0, 1)", x.walk(0, 0, 1), 0);
        Check.due("walk(0, 0, 2) where another is", x.walk(0, 0, 2), 0);
    }

    private static void days() {
        Check.of("n (1 to 60) DAYS go by: how many did");
        LostKeys x = new LostKeys();
        Check.due("days(1)", x.days(1), 1);
        Check.due("days(60)", x.days(60), 60);
        Check.late(x, 341);
        Check.due("days(60) with 59 left", x.days(60), 59);
        Check.due("now(0)", x.now(0), 400);
        Check.due("days(60) with none left", x.days(60), 0);
        x.undo();
        Check.due("days(59) with 59 left", x.days(59), 59);
        Check.due("days(1) with none left", x.days(1), 0);
    }

    private static void daysNone() {
        Check.of("how many did; NONE: not as told");
        LostKeys x = Check.town(TownTest.SHOP);
        x.drop(0, 0);
        String before = Check.seen(x);
        for (int n : new int[] {0, -1, 61, 400, Integer.MAX_VALUE, Integer.MIN_VALUE}) {
            Check.due("days(" + n + ")", x.days(n), -1);
        }
        Check.due("all stays", Check.seen(x).equals(before), true);
        Check.late(x, 400);
        Check.due("days(61) when all are over", x.days(61), -1);
        Check.due("days(0) when all are over", x.days(0), -1);
    }

    private static void undoKinds() {
        Check.of("The latest of drop(), pick(), tries(), walk() that was done, days() above 0, drawn() above 0, a BOOK that was lived is undone");
        LostKeys x = Check.town(TownTest.SHOP);
        String[] before = new String[6];
        before[0] = Check.seen(x);
        x.drop(0, 0);
        before[1] = Check.seen(x);
        x.days(2);
        before[2] = Check.seen(x);
        x.pick(0, 0);
        dueUndone(x, before, 3, 2);
        // The same by the other three.
        x = Check.town(TownTest.SHOP);
        before[0] = Check.seen(x);
        x.walk(1, 3, 2);
        before[1] = Check.seen(x);
        x.tries(1, 2, 1);
        before[2] = Check.seen(x);
        x.drawn(30, 5);
        dueUndone(x, before, 3, 0);
        x = Check.town(TownTest.SHOP);
        x.days(3);
        // What is not done, or changes nothing, is not undone.
        x.drop(0, 9);
        x.drop(1, 0);
        x.pick(1, 1);
        x.tries(0, 0, 2);
        x.walk(0, 3, 0);
        x.days(0);
        x.drawn(61, 1);
        x.opens(9);
        x.way(1, 2, 0);
        x.odds(0, 3, 3);
        x.losing(0, 0);
        x.image(0);
        Check.due("undo() of days(3)", x.undo(), 0);
        Check.due("now(0)", x.now(0), 0);
        // A BOOK that is lived is one act, one that is judged none; nor is one with a FAULT.
        Check.dueBook(x, 1, "ann drops brass;day 2;ann walks 0 1;", -1, 0);
        Check.dueBook(x, 0, "day 9;", -1, 0);
        Check.dueBook(x, 1, "day 9;day", -2 - 9, 1);
        Check.due("book(3)", x.book(3), -1000);
        Check.due("undo() of a BOOK", x.undo(), 0);
        Check.due("now(0)", x.now(0), 0);
        Check.due("now(1)", x.now(1), 0);
        Check.due("man(0, 1)", x.man(0, 1), 0);
        Check.due("undo()", x.undo(), -1);
    }

    /** The latest acts are undone, and it is as it was ahead of each; on which DAY ahead of the last. */
    private static void dueUndone(LostKeys x, String[] before, int acts, int day) {
        for (int i = acts - 1; i >= 0; i--) {
            Check.due("undo()", x.undo(), i);
            Check.due("all is as it was ahead of act " + i, Check.seen(x).equals(before[i]), true);
            if (i == acts - 1) {
                Check.due("now(0)", x.now(0), day);
            }
        }
        Check.due("undo() of none", x.undo(), -1);
    }

    private static void undoMany() {
        Check.of("how many more can be (8 at most are kept)");
        for (int many = 1; many <= 20; many++) {
            LostKeys x = new LostKeys();
            for (int i = 0; i < many; i++) {
                x.days(1);
            }
            int day = x.now(0);
            for (int i = Math.min(8, many) - 1; i >= 0; i--) {
                day--;
                Check.due("undo() of " + many, x.undo(), i);
                Check.due("now(0)", x.now(0), day);
            }
            Check.due("undo() of none of " + many, x.undo(), -1);
            Check.due("now(0)", x.now(0), day);
        }
    }

    private static void undoNone() {
        Check.of("(8 at most are kept); NONE: none is");
        LostKeys x = Check.town(TownTest.SHOP);
        String before = Check.seen(x);
        Check.due("undo() ahead of any", x.undo(), -1);
        Check.due("all stays", Check.seen(x).equals(before), true);
        x.drop(0, 0);
        Check.due("undo()", x.undo(), 0);
        Check.due("undo()", x.undo(), -1);
        Check.due("undo()", x.undo(), -1);
        Check.due("all stays", Check.seen(x).equals(before), true);
        Check.late(x, 400);
        for (int i = 0; i < 7; i++) {
            x.undo();
        }
        Check.late(x, 400);
        x.days(1);
        x.drawn(1, 1);
        Check.due("undo() of the last that went, not of those of 0", x.undo() >= 0, true);
        Check.due("now(0)", x.now(0) < 400, true);
        // The very last DAY can be undone, and is one.
        Check.late(x, 399);
        Check.due("days(1)", x.days(1), 1);
        Check.due("days(1) of 0", x.days(1), 0);
        Check.due("undo()", x.undo() >= 0, true);
        Check.due("now(0)", x.now(0), 399);
        Check.due("drawn(1, 1)", x.drawn(1, 1), 1);
        Check.due("drawn(1, 1) of 0", x.drawn(1, 1), 0);
        Check.due("undo()", x.undo() >= 0, true);
        Check.due("now(0)", x.now(0), 399);
    }

    private static void nearest() {
        Check.of("NEAREST to a cell; NONE: there are no LOCKS, no such one.");
        LostKeys x = Check.town("field 6 2;" + ROOMS + "lock c a b 0 0 1;");
        Check.due("nearest(5, 1)", x.nearest(5, 1), 0);
        Check.due("nearest(0, 0)", x.nearest(0, 0), 0);
        Check.due("nearest(6, 0)", x.nearest(6, 0), -1);
        Check.due("nearest(0, 2)", x.nearest(0, 2), -1);
        Check.due("nearest(0, 5)", x.nearest(0, 5), -1);
        for (int wild : WILD) {
            Check.due("nearest(" + wild + ", 0)", x.nearest(wild, 0), -1);
            Check.due("nearest(0, " + wild + ")", x.nearest(0, wild), -1);
        }
        Check.due("nearest(0, 0) without LOCKS", Check.town("room a;man m 0 0;").nearest(0, 0), -1);
        Check.due("nearest(0, 0) of a new object", new LostKeys().nearest(0, 0), -1);
        // The LOCKS of the TOWN that was are no more.
        x.town();
        Check.due("nearest(0, 0) of an empty TOWN", x.nearest(0, 0), -1);
    }

    private static void off() {
        Check.of("In how many bits a KEY and a LOCK differ; NONE: no such ones.");
        LostKeys x = Check.town(ROOMS + "lock c a b 0 0 63;lock d a b 0 0 0;man m 0 0;key k m 0;");
        Check.due("off(0, 0)", x.off(0, 0), 6);
        Check.due("off(0, 1)", x.off(0, 1), 0);
        Check.due("off(0, 2)", x.off(0, 2), -1);
        Check.due("off(1, 0)", x.off(1, 0), -1);
        for (int wild : WILD) {
            Check.due("off(" + wild + ", 0)", x.off(wild, 0), -1);
            Check.due("off(0, " + wild + ")", x.off(0, wild), -1);
        }
        x.drop(0, 0);
        x.days(2);
        Check.due("off(0, 0) of one that turned", x.off(0, 0), 5);
        Check.due("off(0, 1)", x.off(0, 1), 1);
    }

    private static void fitting() {
        Check.of("FITTING of a KEY: how many DAYS; NONE: it does not lie, there are no LOCKS, fewer DAYS are left, no such one.");
        LostKeys x = Check.town(ROOMS + "lock c a b 0 0 63;man m 0 0;key k m 0;key l m 63;slow 9;");
        Check.due("fitting(1) of one that is had and fits", x.fitting(1), -1);
        Check.due("fitting(2)", x.fitting(2), -1);
        for (int wild : WILD) {
            Check.due("fitting(" + wild + ")", x.fitting(wild), -1);
        }
        x.drop(0, 1);
        Check.late(x, 346);
        x.drop(0, 0);
        Check.due("fitting(0) with 54 DAYS left", x.fitting(0), 54);
        x.undo();
        x.days(1);
        x.drop(0, 0);
        Check.due("fitting(0) with 53 DAYS left", x.fitting(0), -1);
        Check.due("fitting(1)", x.fitting(1), 0);
        Check.late(x, 400);
        Check.due("fitting(1) with none left", x.fitting(1), 0);
        LostKeys none = Check.town("man m 0 0;key k m 0;");
        none.drop(0, 0);
        Check.due("fitting(0) without LOCKS", none.fitting(0), -1);
    }

    private static void losing() {
        Check.of("LOSING of a KEY for a LOCK: how many DAYS go till then; NONE: nowhere (fewer DAYS are left), no such ones.");
        LostKeys x = Check.town(ROOMS + "lock c a b 0 0 63;lock d a b 0 0 63;man m 0 0;key k m 0;key l m 63;slow 9;");
        Check.due("losing(0, 0)", x.losing(0, 0), 54);
        Check.due("losing(0, 1), NEAREST to no cell", x.losing(0, 1), -1);
        Check.due("losing(2, 0)", x.losing(2, 0), -1);
        Check.due("losing(0, 2)", x.losing(0, 2), -1);
        for (int wild : WILD) {
            Check.due("losing(" + wild + ", 0)", x.losing(wild, 0), -1);
            Check.due("losing(0, " + wild + ")", x.losing(0, wild), -1);
        }
        Check.late(x, 346);
        Check.due("losing(0, 0) with 54 DAYS left", x.losing(0, 0), 54);
        x.days(1);
        Check.due("losing(0, 0) with 53 DAYS left", x.losing(0, 0), -1);
        Check.late(x, 391);
        Check.due("losing(1, 0) with 9 DAYS left", x.losing(1, 0), 9);
        x.days(1);
        Check.due("losing(1, 0) with 8 DAYS left", x.losing(1, 0), -1);
    }

    private static void lost() {
        Check.of("0 X, 1 Y of the cell by the latest losing() that was not NONE; NONE for another what, or ahead of any.");
        LostKeys x = Check.town("field 6 2;" + ROOMS + "lock c a b 0 0 1;lock d a b 5 1 1;lock e a b 5 1 1;man m 0 0;key k m 0;");
        Check.due("lost(0) ahead of any", x.lost(0), -1);
        Check.due("lost(1) ahead of any", x.lost(1), -1);
        x.losing(0, 2);
        Check.due("lost(0) behind one of NONE", x.lost(0), -1);
        x.losing(0, 1);
        Check.due("lost(0)", x.lost(0), 4);
        Check.due("lost(1)", x.lost(1), 0);
        x.losing(0, 2);
        x.losing(9, 0);
        Check.due("lost(0) behind one of NONE", x.lost(0), 4);
        x.losing(0, 0);
        Check.due("lost(0)", x.lost(0), 0);
        for (int wild : new int[] {-1, 2, 3, Integer.MAX_VALUE, Integer.MIN_VALUE}) {
            Check.due("lost(" + wild + ")", x.lost(wild), -1);
        }
    }

    private static void lostStays() {
        Check.of("of the cell by the latest losing() that was not NONE");
        LostKeys x = Check.town("field 6 2;" + ROOMS + "lock c a b 0 0 1;lock d a b 5 1 1;man m 0 0;key k m 0;");
        x.losing(0, 1);
        x.drop(0, 0);
        x.undo();
        Check.due("lost(0) behind undo()", x.lost(0), 4);
        x.town();
        Check.due("lost(0) in another TOWN", x.lost(0), 4);
        Check.due("lost(1) in another TOWN", x.lost(1), 0);
        x.image(0);
        x.restore(0);
        Check.due("lost(0) behind restore()", x.lost(0), 4);
    }
}
