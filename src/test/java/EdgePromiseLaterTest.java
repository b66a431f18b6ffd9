/** Promises 21 to 40: each sentence that names a boundary, tested by itself. */
public final class EdgePromiseLaterTest {
    private static final String ROOMS = "room a;room b;";
    /** No number of anything. */
    private static final int[] WILD = {-2, 8, 64, Integer.MAX_VALUE, Integer.MIN_VALUE};

    public static void main(String[] args) {
        match();
        matched();
        matchedStays();
        opens();
        opensNone();
        waySame();
        wayNone();
        wayDays();
        wayAt();
        found();
        foundNone();
        tells();
        tellsThen();
        twins();
        twin();
        tag();
        byteAt();
        drawn();
        drawnNone();
        odds();
        oddsNone();
        bookJudged();
        bookLived();
        bookAnswers();
        bookLives();
        toldWhy();
        toldDaysLeft();
        toldThen();
        toldNone();
        toldStays();
        sentenceOnes();
        sentenceStays();
        said();
        saidNone();
        image();
        imageRefused();
        restore();
        restoreWhole();
        restoreStays();
        restoreUndo();
        restoreRefused();
        count();
        Check.finish();
    }

    private static void match() {
        Check.of("MATCH: bits in all; NONE: there are too few KEYS.");
        LostKeys x = Check.town(ROOMS + "lock c a b 0 0 0;lock d a b 0 0 0;man m 0 0;key k m 63;key l m 63;");
        Check.due("match() of as many KEYS as LOCKS", x.match(), 12);
        LostKeys few = Check.town(ROOMS + "lock c a b 0 0 0;lock d a b 0 0 0;man m 0 0;key k m 0;");
        Check.due("match() of one KEY for two", few.match(), -1);
        few.tries(0, 0, 1);
        Check.due("match() of one KEY for one", few.match(), 0);
        few.tries(0, 0, 0);
        Check.due("match() where all are open", few.match(), 0);
        Check.due("match() without KEYS for one", Check.town(ROOMS + "lock c a b 0 0 0;").match(), -1);
        Check.due("match() without LOCKS", Check.town("man m 0 0;key k m 0;").match(), 0);
        Check.due("match() without anything", new LostKeys().match(), 0);
    }

    private static void matched() {
        Check.of("Which KEY a LOCK has by the latest match() that was not NONE; NONE: none, no such one, or ahead of any.");
        LostKeys x = Check.town(ROOMS + "lock c a b 0 0 0;lock d a b 0 0 7 open;man m 0 0;key k m 7;key l m 0;");
        Check.due("matched(0) ahead of any", x.matched(0), -1);
        x.match();
        Check.due("matched(0)", x.matched(0), 1);
        Check.due("matched(1) that is open", x.matched(1), -1);
        for (int l = 2; l < 8; l++) {
            Check.due("matched(" + l + ")", x.matched(l), -1);
        }
        Check.due("matched(-1)", x.matched(-1), -1);
        for (int wild : WILD) {
            Check.due("matched(" + wild + ")", x.matched(wild), -1);
        }
    }

    private static void matchedStays() {
        Check.of("by the latest match() that was not NONE; NONE: none");
        LostKeys x = Check.town(ROOMS + "lock c a b 0 0 0;lock d a b 0 0 7 open;man m 0 0;key k m 7;");
        Check.due("match()", x.match(), 3);
        x.tries(0, 0, 1);
        Check.due("match() of too few", x.match(), -1);
        Check.due("matched(0) stays", x.matched(0), 0);
        Check.due("matched(1) stays", x.matched(1), -1);
        x.tries(0, 0, 1);
        x.drop(0, 0);
        x.days(6);
        Check.due("match() where all are open", x.match(), 0);
        Check.due("matched(0) by the latest", x.matched(0), -1);
    }

    private static void opens() {
        Check.of("LOCKS open behind n (0 to 60) DAYS (till all are over), as bits");
        LostKeys x = Check.town(ROOMS + "lock c a b 0 0 1;lock d a b 0 4 63;lock e a b 4 4 2 open;man m 0 0;man n 0 4;key k m 0;key l n 0;slow 9;");
        Check.due("opens(0)", x.opens(0), 4);
        x.drop(0, 0);
        x.drop(1, 1);
        Check.due("opens(8)", x.opens(8), 4);
        Check.due("opens(9)", x.opens(9), 5);
        Check.due("opens(53)", x.opens(53), 5);
        Check.due("opens(54)", x.opens(54), 7);
        Check.due("opens(60)", x.opens(60), 7);
        x.undo();
        x.undo();
        Check.late(x, 391);
        x.drop(0, 0);
        Check.due("opens(60) with 9 DAYS left", x.opens(60), 5);
        x.undo();
        x.days(1);
        x.drop(0, 0);
        Check.due("opens(60) with 8 DAYS left", x.opens(60), 4);
        Check.late(x, 400);
        Check.due("opens(60) with none left", x.opens(60), 4);
        Check.due("opens(0) with none left", x.opens(0), 4);
    }

    private static void opensNone() {
        Check.of("(till all are over), as bits; NONE: not as told");
        LostKeys x = Check.town(ROOMS + "lock c a b 0 0 1 open;");
        for (int n : new int[] {-1, 61, 400, Integer.MAX_VALUE, Integer.MIN_VALUE}) {
            Check.due("opens(" + n + ")", x.opens(n), -1);
        }
        Check.due("opens(60)", x.opens(60), 1);
        Check.due("opens(60) without LOCKS", new LostKeys().opens(60), 0);
    }

    private static void waySame() {
        Check.of("how many LOCKS (0: the same)");
        LostKeys x = Check.town("room a;room b;lock c a b 0 0 1 open;");
        Check.due("way(0, 1, 0)", x.way(0, 1, 0), 1);
        Check.due("way(1, 1, 0)", x.way(1, 1, 0), 0);
        Check.due("wayAt(0)", x.wayAt(0), -1);
        Check.due("way(0, 0, 60) without LOCKS", Check.town("room a;").way(0, 0, 60), 0);
    }

    private static void wayNone() {
        Check.of("how many LOCKS (0: the same); NONE: none, no such ones.");
        LostKeys x = Check.town("room a;room b;room c;lock la a b 0 0 1 open;lock lb b c 0 0 1;");
        Check.due("way(0, 2, 0): shut", x.way(0, 2, 0), -1);
        Check.due("way(2, 0, 0): shut", x.way(2, 0, 0), -1);
        Check.due("way(0, 3, 0)", x.way(0, 3, 0), -1);
        Check.due("way(3, 3, 0)", x.way(3, 3, 0), -1);
        Check.due("way(-1, -1, 0)", x.way(-1, -1, 0), -1);
        for (int wild : WILD) {
            Check.due("way(" + wild + ", 0, 0)", x.way(wild, 0, 0), -1);
            Check.due("way(0, " + wild + ", 0)", x.way(0, wild, 0), -1);
        }
        Check.due("way(0, 0, 0) without ROOMS", new LostKeys().way(0, 0, 0), -1);
    }

    private static void wayDays() {
        Check.of("WAY from a ROOM to another one behind n (0 to 60) DAYS");
        LostKeys x = Check.town(ROOMS + "lock c a b 0 0 63;man m 0 0;key k m 0;slow 9;");
        x.drop(0, 0);
        x.days(3);
        Check.due("way(0, 1, 50)", x.way(0, 1, 50), -1);
        Check.due("way(0, 1, 51)", x.way(0, 1, 51), 1);
        Check.due("way(0, 1, 60)", x.way(0, 1, 60), 1);
        for (int n : new int[] {-1, 61, Integer.MAX_VALUE, Integer.MIN_VALUE}) {
            Check.due("way(0, 1, " + n + ")", x.way(0, 1, n), -1);
            Check.due("way(0, 0, " + n + ")", x.way(0, 0, n), -1);
        }
        Check.due("now(0)", x.now(0), 3);
        x.undo();
        x.undo();
        Check.late(x, 347);
        x.drop(0, 0);
        Check.due("way(0, 1, 60) with 53 DAYS left", x.way(0, 1, 60), -1);
    }

    private static void wayAt() {
        Check.of("Its k-th LOCK (from 0), by the latest way() that was not NONE; NONE: none such, or ahead of any.");
        LostKeys x = Check.town("room a;room b;room c;room d;lock la a b 0 0 1 open;lock lb b c 0 0 1 open;");
        Check.due("wayAt(0) ahead of any", x.wayAt(0), -1);
        Check.due("way(0, 3, 0)", x.way(0, 3, 0), -1);
        Check.due("wayAt(0) behind one of NONE", x.wayAt(0), -1);
        x.way(2, 0, 0);
        x.way(0, 3, 0);
        x.way(0, 9, 0);
        x.way(0, 0, 61);
        Check.due("wayAt(0)", x.wayAt(0), 1);
        Check.due("wayAt(1)", x.wayAt(1), 0);
        Check.due("wayAt(2)", x.wayAt(2), -1);
        Check.due("wayAt(-1)", x.wayAt(-1), -1);
        for (int wild : WILD) {
            Check.due("wayAt(" + wild + ")", x.wayAt(wild), -1);
        }
        x.way(0, 1, 0);
        Check.due("wayAt(0) by the latest", x.wayAt(0), 0);
        Check.due("wayAt(1) by the latest", x.wayAt(1), -1);
    }

    private static int found(LostKeys x, int... bytes) {
        byte[] b = new byte[bytes.length];
        for (int i = 0; i < b.length; i++) {
            b[i] = (byte) bytes[i];
        }
        Check.bytes(x, b);
        return x.found();
    }

    private static void found() {
        Check.of("FOUND: KEYS, as bits");
        LostKeys x = Check.town(ROOMS + "lock c a b 0 0 63;man m 0 0;key ka m 63;key kb m 0;key kc m 62;key kd m 63;key ke m 63;key kf m 63;key kg m 63;key kh m 63;");
        Check.due("found() of none", found(x, 0, 0, 5, 0), 0);
        Check.due("found() of six", found(x, 0, 0, 63, 0), 255 - 2 - 4);
        Check.due("found() of seven", found(x, 0, 0, 63, 2), 255 - 2);
        Check.due("found() of all", found(x, 0, 0, 63, 12), 255);
        Check.due("found() without KEYS", found(Check.town(ROOMS + "lock c a b 0 0 63;"), 0, 0, 63, 0), 0);
    }

    private static void foundNone() {
        Check.of("NONE: not as told (WARD 63 at most), no LOCKS");
        LostKeys x = Check.town("field 3 2;" + ROOMS + "lock c a b 0 0 63;man m 0 0;key k m 63;");
        Check.due("found() of WARD 63 in the last cell", found(x, 2, 1, 63, 255), 1);
        Check.due("found() of WARD 64", found(x, 2, 1, 64, 0), -1);
        Check.due("found() of WARD 127", found(x, 2, 1, 127, 0), -1);
        Check.due("found() of WARD 191", found(x, 2, 1, 191, 0), -1);
        Check.due("found() of WARD 255", found(x, 2, 1, 255, 0), -1);
        Check.due("found() of X 3", found(x, 3, 1, 63, 0), -1);
        Check.due("found() of X 255", found(x, 255, 1, 63, 0), -1);
        Check.due("found() of Y 2", found(x, 2, 2, 63, 0), -1);
        Check.due("found() of Y 128", found(x, 2, 128, 63, 0), -1);
        Check.due("found() of an empty tape", found(x), -1);
        Check.due("found() of 3 bytes", found(x, 0, 0, 63), -1);
        Check.due("found() of 5 bytes", found(x, 0, 0, 63, 0, 0), -1);
        Check.due("found() without LOCKS", found(Check.town("man m 0 0;key k m 63;"), 0, 0, 63, 0), -1);
    }

    private static void tells() {
        Check.of("TELLS by the latest found() above 0 (as it was then): 6 by Y and X; NONE ahead of any.");
        LostKeys x = Check.town("field 6 6;" + ROOMS + "lock c a b 0 0 0;lock d a b 5 5 63;man m 0 0;key k m 0;key l m 1;slow 1;");
        Check.due("tells() ahead of any", x.tells(), -1);
        found(x, 0, 0, 9, 0);
        Check.due("tells() behind one of 0", x.tells(), -1);
        found(x, 0, 0, 64, 0);
        Check.due("tells() behind one of NONE", x.tells(), -1);
        // By d they are 1 and 3 behind a DAY; the first cell that is nearer to it is X 5 of Y 1.
        Check.due("found()", found(x, 0, 0, 0, 1), 3);
        Check.due("tells()", x.tells(), 11);
        found(x, 0, 0, 9, 0);
        found(x, 0, 0, 64, 0);
        found(x);
        Check.due("tells() behind one of 0 and two of NONE", x.tells(), 11);
        Check.due("found()", found(x, 0, 0, 0, 0), 1);
        Check.due("tells() by the latest", x.tells(), 0);
        // Y counts six whatever the field is wide.
        LostKeys y = Check.town("field 2 6;" + ROOMS + "lock c a b 0 0 0;lock d a b 1 5 63;man m 0 0;key k m 0;key l m 1;slow 1;");
        found(y, 0, 0, 0, 1);
        Check.due("tells() in a field 2 wide", y.tells(), 6 * 3 + 0 + 1);
    }

    private static void tellsThen() {
        Check.of("TELLS by the latest found() above 0 (as it was then)");
        LostKeys x = Check.town("field 6 6;" + ROOMS + "lock c a b 0 0 0;lock d a b 5 5 63;man m 0 0;key k m 0;key l m 1;slow 1;");
        found(x, 0, 0, 0, 1);
        x.drop(0, 0);
        x.days(9);
        Check.due("tells() DAYS later", x.tells(), 11);
        x.town();
        Check.due("tells() in an empty TOWN", x.tells(), 11);
    }

    private static void twins() {
        Check.of("TWINS: in how many bits they differ; NONE: there are fewer than two.");
        Check.due("twins() of no KEYS", new LostKeys().twins(), -1);
        Check.due("twins() of one KEY", Check.town("man m 0 0;key k m 0;").twins(), -1);
        Check.due("twins() of two", Check.town("man m 0 0;key k m 0;key l m 63;").twins(), 6);
        Check.due("twins() of two alike", Check.town("man m 0 0;key k m 63;key l m 63;").twins(), 0);
    }

    private static void twin() {
        Check.of("0 the first, 1 the second by the latest twins() that was not NONE; NONE for another what, or ahead of any.");
        LostKeys x = new LostKeys();
        x.twins();
        Check.due("twin(0) ahead of any", x.twin(0), -1);
        Check.due("twin(1) ahead of any", x.twin(1), -1);
        Check.tape(x, "man m 0 0;key k m 0;key l m 63;key n m 62;");
        x.town();
        x.twins();
        Check.due("twin(0)", x.twin(0), 1);
        Check.due("twin(1)", x.twin(1), 2);
        for (int wild : new int[] {-1, 2, 3, Integer.MAX_VALUE, Integer.MIN_VALUE}) {
            Check.due("twin(" + wild + ")", x.twin(wild), -1);
        }
        x.town();
        Check.due("twins() of none", x.twins(), -1);
        Check.due("twin(0) by the latest that was not NONE", x.twin(0), 1);
        Check.due("twin(1) by the latest that was not NONE", x.twin(1), 2);
    }

    private static void tag() {
        Check.of("TAG of a KEY: how many bytes; NONE: no such one.");
        LostKeys x = Check.town(ROOMS + "lock lockabc a b 0 0 0;man manabcd 0 0;key keyabcd manabcd 0;key k manabcd 1;");
        Check.due("tag(0) of the longest", x.tag(0), 7 + 8 + 7 + 6 + 7);
        Check.due("tag(1)", x.tag(1), 1 + 8 + 7);
        x.drop(0, 1);
        Check.due("tag(1) of one that lies", x.tag(1), 1 + 9 + 3);
        Check.due("tag(2)", x.tag(2), -1);
        Check.due("tag(-1)", x.tag(-1), -1);
        for (int wild : WILD) {
            Check.due("tag(" + wild + ")", x.tag(wild), -1);
        }
        Check.due("tag(0) without KEYS", new LostKeys().tag(0), -1);
    }

    private static void byteAt() {
        Check.of("Byte i of the latest TAG; NONE: none such.");
        LostKeys x = Check.town("man m 0 0;key k m 1;key longest m 1;");
        Check.due("byteAt(0) ahead of any", x.byteAt(0), -1);
        x.tag(1);
        Check.due("byteAt(15)", x.byteAt(15), 'm');
        Check.due("byteAt(16)", x.byteAt(16), -1);
        x.tag(0);
        Check.due("byteAt(0)", x.byteAt(0), 'k');
        Check.due("byteAt(9)", x.byteAt(9), 'm');
        Check.due("byteAt(10): of the one ahead of it", x.byteAt(10), -1);
        x.tag(2);
        Check.due("byteAt(0) behind a tag() of NONE", x.byteAt(0), 'k');
        Check.due("byteAt(-1)", x.byteAt(-1), -1);
        for (int wild : new int[] {-2, 35, 64, Integer.MAX_VALUE, Integer.MIN_VALUE}) {
            Check.due("byteAt(" + wild + ")", x.byteAt(wild), -1);
        }
    }

    private static void drawn() {
        Check.of("n (1 to 60) DAYS DRAWN by a seed: how many went by");
        LostKeys x = Check.town("man m 0 0;");
        Check.due("drawn(1, 0)", x.drawn(1, 0), 1);
        Check.due("drawn(60, least)", x.drawn(60, Integer.MIN_VALUE), 60);
        Check.due("now(0)", x.now(0), 61);
        Check.late(x, 341);
        Check.due("drawn(60, most) with 59 left", x.drawn(60, Integer.MAX_VALUE), 59);
        Check.due("now(0)", x.now(0), 400);
        String before = Check.seen(x);
        Check.due("drawn(60, 0) with none left", x.drawn(60, 0), 0);
        Check.due("no draws without a DAY", Check.seen(x).equals(before), true);
        x.undo();
        Check.due("undo() of the 59", x.now(0), 341);
    }

    private static void drawnNone() {
        Check.of("how many went by; NONE: not as told, no MEN");
        LostKeys x = Check.town("man m 0 0;key k m 0;");
        String before = Check.seen(x);
        for (int n : new int[] {0, -1, 61, Integer.MAX_VALUE, Integer.MIN_VALUE}) {
            Check.due("drawn(" + n + ", 1)", x.drawn(n, 1), -1);
        }
        Check.due("all stays", Check.seen(x).equals(before), true);
        LostKeys none = Check.town(ROOMS + "lock c a b 0 0 1;");
        Check.due("drawn(1, 1) without MEN", none.drawn(1, 1), -1);
        Check.due("now(0)", none.now(0), 0);
        Check.due("undo()", none.undo(), -1);
        Check.late(none, 400);
        Check.due("drawn(1, 1) without MEN and DAYS", none.drawn(1, 1), -1);
    }

    private static void odds() {
        Check.of("Of n (1 to 30) seeds x, x and 1, .. by how many a LOCK is open behind 20 DAYS DRAWN from now on");
        String town = "field 2 2;" + ROOMS + "lock c a b 0 0 1;lock d a b 1 1 2;man m 0 0;key k m 1;key l m 2;slow 1;";
        // The seeds go on behind the greatest int with the least one.
        for (int seed : new int[] {0, -15, Integer.MAX_VALUE - 14, Integer.MIN_VALUE}) {
            int[] open = new int[2];
            for (int i = 0; i < 30; i++) {
                LostKeys one = Check.town(town);
                one.drawn(20, seed + i);
                open[0] += one.lock(0, 5);
                open[1] += one.lock(1, 5);
            }
            LostKeys x = Check.town(town);
            Check.due("odds(0, 30, " + seed + ")", x.odds(0, 30, seed), open[0]);
            Check.due("odds(1, 30, " + seed + ")", x.odds(1, 30, seed), open[1]);
            Check.due("now(0)", x.now(0), 0);
        }
        LostKeys y = Check.town(town);
        y.drawn(20, 4);
        int open = y.lock(1, 5);
        y.undo();
        Check.due("odds(1, 1, 4)", y.odds(1, 1, 4), open);
        Check.due("undo(): odds() is no act", y.undo(), -1);
        // Four turns by 'slow' 5 are done on the 20th DAY, three by 'slow' 7 on the 21st.
        String far = "field 6 6;" + ROOMS + "lock c a b 5 5 15;man m 0 0;";
        LostKeys twenty = Check.town(far + "key k m 0;slow 5;");
        twenty.drop(0, 0);
        Check.due("odds(0, 30, 7) of 20 DAYS is above 0", twenty.odds(0, 30, 7) > 0, true);
        LostKeys more = Check.town(far + "key k m 1;slow 7;");
        more.drop(0, 0);
        Check.due("odds(0, 30, 7) of 21 DAYS", more.odds(0, 30, 7), 0);
        // With fewer DAYS left as many go as there are: the KEY needs nine, and the MAN needs eight steps to the LOCK.
        LostKeys late = Check.town(ROOMS + "lock c a b 0 0 1;man m 4 4;key k m 1;slow 9;");
        late.drop(0, 0);
        Check.due("odds(0, 30, 1) with 400 DAYS left is above 0", late.odds(0, 30, 1) > 0, true);
        late.undo();
        Check.late(late, 392);
        late.drop(0, 0);
        Check.due("odds(0, 30, 1) with 8 DAYS left", late.odds(0, 30, 1), 0);
        Check.late(late, 400);
        Check.due("odds(0, 30, 1) with none left", late.odds(0, 30, 1), 0);
        Check.due("now(0)", late.now(0), 400);
    }

    private static void oddsNone() {
        Check.of("behind 20 DAYS DRAWN from now on; NONE: no such ones");
        LostKeys x = Check.town(ROOMS + "lock c a b 0 0 1 open;man m 4 4;");
        Check.due("odds(0, 1, 1)", x.odds(0, 1, 1), 1);
        Check.due("odds(0, 30, 1)", x.odds(0, 30, 1), 30);
        Check.due("odds(0, 0, 1)", x.odds(0, 0, 1), -1);
        Check.due("odds(0, -1, 1)", x.odds(0, -1, 1), -1);
        Check.due("odds(0, 31, 1)", x.odds(0, 31, 1), -1);
        Check.due("odds(0, most, 1)", x.odds(0, Integer.MAX_VALUE, 1), -1);
        Check.due("odds(1, 1, 1)", x.odds(1, 1, 1), -1);
        Check.due("odds(-1, 1, 1)", x.odds(-1, 1, 1), -1);
        for (int wild : WILD) {
            Check.due("odds(" + wild + ", 1, 1)", x.odds(wild, 1, 1), -1);
        }
        Check.due("odds(0, 1, 1) without LOCKS", Check.town("man m 0 0;").odds(0, 1, 1), -1);
    }

    private static void bookJudged() {
        Check.of("it is judged, all staying as it is (lives 0)");
        LostKeys x = Check.town(TownTest.SHOP);
        x.drop(0, 1);
        Check.tape(x, "");
        x.book(0);
        String before = Check.seen(x);
        Check.dueBook(x, 0, "ann drops brass;day 60;ann picks iron;ann walks 0 1;bob walks 3 2;bob tries tin vault;", -1, 0);
        Check.due("told(2)", x.told(2), 60);
        Check.tape(x, "");
        x.book(0);
        Check.due("all stays", Check.seen(x).equals(before), true);
        Check.due("undo() of the drop", x.undo(), 0);
    }

    private static void bookLived() {
        Check.of("or lived as far as it is not WRONG (1)");
        LostKeys x = Check.town(TownTest.SHOP);
        Check.dueBook(x, 1, "ann drops brass;day 2;ann walks 0 1;ann drops brass;day 60;", 3, 0);
        Check.due("now(0)", x.now(0), 2);
        Check.due("now(1)", x.now(1), 1);
        Check.due("now(2)", x.now(2), 3);
        Check.due("man(0, 1)", x.man(0, 1), 1);
        // The same DAY by DAY.
        LostKeys y = Check.town(TownTest.SHOP);
        y.drop(0, 0);
        y.days(2);
        y.walk(0, 0, 1);
        for (int k = 0; k < 3; k++) {
            for (int what = 0; what < 8; what++) {
                Check.due("key(" + k + ", " + what + ")", x.key(k, what), y.key(k, what));
            }
        }
        Check.dueBook(x, 1, "", -1, 0);
        Check.due("now(0) behind an empty BOOK", x.now(0), 2);
        // What is asked behind it looks ahead, and lives nothing.
        Check.due("opens(60)", x.opens(60), 3);
        Check.due("now(0) behind opens()", x.now(0), 2);
        Check.dueBook(x, 0, "day 9;", -1, 0);
        Check.due("now(0) behind a BOOK judged", x.now(0), 2);
    }

    private static void bookAnswers() {
        Check.of("the LINE that is WRONG; NONE: none; -2 less the place of a FAULT");
        LostKeys x = Check.town(TownTest.SHOP);
        Check.dueBook(x, 0, "bob drops brass;", 0, 0);
        Check.dueBook(x, 0, "day 1;bob drops brass;bob drops brass;", 1, 0);
        Check.dueBook(x, 0, Check.repeat("day 1;", 39) + "bob drops brass;", 39, 0);
        Check.dueBook(x, 0, "day 1;", -1, 0);
        Check.dueBook(x, 0, "", -1, 0);
        Check.dueBook(x, 0, "!", -2, 1);
        Check.dueBook(x, 0, " !", -3, 1);
        Check.dueBook(x, 0, Check.repeat(" ", 399) + "!", -401, 1);
        Check.dueBook(x, 0, Check.repeat(" ", 400) + "!", -402, 1);
        // A FAULT behind a LINE that would be WRONG is told, and nothing is lived.
        Check.dueBook(x, 1, "day 1;bob drops brass;!", -2 - 22, 1);
        Check.due("now(0)", x.now(0), 0);
    }

    private static void bookLives() {
        Check.of("-1000: another lives (the tape stays)");
        LostKeys x = Check.town(TownTest.SHOP);
        Check.tape(x, "day 5;");
        for (int lives : new int[] {-1, 2, 3, Integer.MAX_VALUE, Integer.MIN_VALUE}) {
            Check.due("book(" + lives + ")", x.book(lives), -1000);
            Check.due("count(7)", x.count(7), 6);
        }
        Check.due("told(0)", x.told(0), -1);
        Check.due("now(0)", x.now(0), 0);
        Check.due("book(1)", x.book(1), -1);
        Check.due("now(0)", x.now(0), 5);
    }

    private static void toldWhy() {
        Check.of("0 why it was WRONG (0: it was not; 1 as for dropping, 11 picking, 21 to 23 trying, 31 walking, 39 there is no such cell");
        LostKeys x = Check.town("field 3 3;" + ROOMS + "lock c a b 1 1 1;lock d a b 2 1 1;man m 1 1;man n 2 2;key k m 1;key l m 2;");
        String[] lines = {"m drops k;", "n drops k;", "m picks k;", "n tries l d;", "m tries l d;", "m tries k d;", "m tries l c;", "m tries k c;",
            "m walks 1 2;", "m walks 1 1;", "m walks 2 2;", "n walks 3 2;", "n walks 2 3;", "m walks 5 5;", "m walks 0 3;"};
        int[] why = {0, 1, 11, 21, 22, 22, 23, 0, 0, 31, 31, 39, 39, 39, 39};
        for (int i = 0; i < lines.length; i++) {
            Check.dueBook(x, 0, lines[i], why[i] == 0 ? -1 : 0, 0);
            Check.due("told(0) of \"" + lines[i] + "\"", x.told(0), why[i]);
        }
    }

    private static void toldDaysLeft() {
        Check.of("41: fewer DAYS are left)");
        LostKeys x = Check.town("man m 0 0;key k m 0;");
        Check.late(x, 341);
        Check.dueBook(x, 0, "day 59;", -1, 0);
        Check.due("told(0)", x.told(0), 0);
        Check.due("told(2)", x.told(2), 400);
        Check.dueBook(x, 1, "day 60;", 0, 0);
        Check.due("told(0)", x.told(0), 41);
        Check.due("told(2)", x.told(2), 341);
        Check.due("now(0)", x.now(0), 341);
        Check.dueBook(x, 1, "day 58;day 1;m drops k;day 1;m walks 0 1;", 3, 0);
        Check.due("told(0)", x.told(0), 41);
        Check.due("told(1)", x.told(1), 3);
        Check.due("now(0)", x.now(0), 400);
        Check.due("now(1)", x.now(1), 1);
        Check.due("man(0, 1)", x.man(0, 1), 0);
    }

    private static void toldThen() {
        Check.of("1 LINES that are not, 2 the DAY then, 3 LOCKS open then, as bits");
        LostKeys x = Check.town(TownTest.SHOP);
        x.days(7);
        dueTold(x, "", 0, 7, 2);
        dueTold(x, "ann drops brass;day 1;", 2, 8, 2);
        dueTold(x, "ann drops brass;day 2;", 2, 9, 3);
        dueTold(x, "ann drops brass;day 2;bob walks 3 2;bob tries tin vault;bob drops brass;day 9;", 4, 9, 1);
        dueTold(x, "bob drops brass;day 9;", 0, 7, 2);
        dueTold(x, Check.repeat("day 1;", 40), 40, 47, 2);
    }

    private static void dueTold(LostKeys x, String book, int lines, int day, int open) {
        Check.tape(x, book);
        x.book(0);
        Check.due("told(1) of \"" + book + "\"", x.told(1), lines);
        Check.due("told(2) of \"" + book + "\"", x.told(2), day);
        Check.due("told(3) of \"" + book + "\"", x.told(3), open);
    }

    private static void toldNone() {
        Check.of("3 LOCKS open then, as bits. NONE: another what, or ahead of any.");
        LostKeys x = new LostKeys();
        for (int what = -1; what < 6; what++) {
            Check.due("told(" + what + ") ahead of any", x.told(what), -1);
        }
        x.book(0);
        Check.due("told(0)", x.told(0), 0);
        Check.due("told(3)", x.told(3), 0);
        for (int wild : new int[] {-1, 4, 5, Integer.MAX_VALUE, Integer.MIN_VALUE}) {
            Check.due("told(" + wild + ")", x.told(wild), -1);
        }
    }

    private static void toldStays() {
        Check.of("Of the latest book() that had no FAULT (and was not -1000)");
        LostKeys x = Check.town(TownTest.SHOP);
        Check.tape(x, "!");
        x.book(0);
        Check.due("told(0) behind a FAULT alone", x.told(0), -1);
        Check.tape(x, "day 9;ann walks 3 2;");
        x.book(0);
        Check.tape(x, "day 1;day");
        x.book(1);
        x.book(2);
        Check.due("told(0)", x.told(0), 31);
        Check.due("told(1)", x.told(1), 1);
        Check.due("told(2)", x.told(2), 9);
        Check.due("told(3)", x.told(3), 2);
        x.days(1);
        x.town();
        Check.due("told(2) in another TOWN", x.told(2), 9);
    }

    private static void sentenceOnes() {
        Check.of("how many ONES (each not, bracket and other one); -1 less the place of a FAULT");
        LostKeys x = Check.town(TownTest.SHOP);
        Check.dueSentence(x, "lying", 1, 0);
        Check.dueSentence(x, "not lying", 2, 0);
        Check.dueSentence(x, "(lying)", 2, 0);
        Check.dueSentence(x, "not(not lying)", 4, 0);
        Check.dueSentence(x, "ward<1 and of ann or had bob", 3, 0);
        Check.dueSentence(x, Check.repeat("lying or ", 19) + "lying", 20, 0);
        Check.dueSentence(x, "!", -1, 1);
        Check.dueSentence(x, " !", -2, 1);
        Check.dueSentence(x, Check.repeat(" ", 199) + "!", -200, 1);
        Check.dueSentence(x, Check.repeat(" ", 200) + "!", -201, 1);
    }

    private static void sentenceStays() {
        Check.of("(each not, bracket and other one); -1 less the place of a FAULT: it stays.");
        LostKeys x = Check.town(TownTest.SHOP);
        Check.dueSentence(x, "lying or", -1 - 8, 1);
        Check.due("said(-1) without one", x.said(-1), -1);
        Check.dueSentence(x, "number=1 or number=2", 2, 0);
        for (String text : new String[] {"", "lying or", "of eve", "(number=0", Check.repeat("not ", 9), Check.repeat("lying or ", 21)}) {
            Check.tape(x, text);
            Check.due("sentence() of \"" + text + "\" has a FAULT", x.sentence() < 0, true);
            Check.due("said(-1)", x.said(-1), 2);
            Check.due("said(0)", x.said(0), 1);
            Check.due("said(1)", x.said(1), 2);
        }
    }

    private static void said() {
        Check.of("KEYS of which it may be said: how many (k NONE), or the k-th.");
        LostKeys x = Check.town("man m 0 0;key ka m 0;key kb m 1;key kc m 0;key kd m 1;key ke m 0;key kf m 0;key kg m 0;key kh m 1;");
        Check.dueSentence(x, "ward=1", 1, 0);
        Check.due("said(-1)", x.said(-1), 3);
        int[] keys = {1, 3, 7, -1};
        for (int k = 0; k < 4; k++) {
            Check.due("said(" + k + ")", x.said(k), keys[k]);
        }
        x.drop(0, 1);
        Check.dueSentence(x, "lying or number=0", 2, 0);
        Check.due("said(-1)", x.said(-1), 2);
        Check.due("said(1)", x.said(1), 1);
        x.drop(0, 7);
        Check.due("said(-1) by what is so", x.said(-1), 3);
        Check.due("said(2)", x.said(2), 7);
    }

    private static void saidNone() {
        Check.of("NONE: there is no SENTENCE, none such.");
        LostKeys x = Check.town("man m 0 0;key k m 0;");
        Check.due("said(-1) without a SENTENCE", x.said(-1), -1);
        Check.due("said(0) without a SENTENCE", x.said(0), -1);
        Check.dueSentence(x, "lying", 1, 0);
        Check.due("said(-1) of none", x.said(-1), 0);
        Check.due("said(0) of none", x.said(0), -1);
        Check.dueSentence(x, "not lying", 2, 0);
        Check.due("said(0)", x.said(0), 0);
        Check.due("said(1)", x.said(1), -1);
        for (int wild : WILD) {
            Check.due("said(" + wild + ")", x.said(wild), -1);
        }
        Check.tape(x, "man m 0 0;key k m 0;");
        x.town();
        Check.due("said(-1) in a new TOWN", x.said(-1), -1);
        Check.due("said(0) in a new TOWN", x.said(0), -1);
    }

    private static void image() {
        Check.of("TOWN, all that is so and the SENTENCE are kept in place k (0, 1): true");
        LostKeys x = Check.town(TownTest.SHOP);
        x.drop(0, 0);
        x.days(2);
        Check.dueSentence(x, "lying", 1, 0);
        Check.due("image(0)", x.image(0), true);
        Check.due("undo(): image() is no act, and nothing is lost by it", x.undo(), 1);
        x.days(5);
        Check.due("image(1)", x.image(1), true);
        Check.due("now(0): image() changes nothing", x.now(0), 5);
        x.restore(0);
        Check.due("now(0)", x.now(0), 2);
        Check.due("now(2)", x.now(2), 3);
        Check.due("said(-1)", x.said(-1), 1);
        x.restore(1);
        Check.due("now(0)", x.now(0), 5);
        // What is kept anew takes its place, and what is done later does not change it.
        x.image(0);
        x.days(9);
        x.restore(0);
        Check.due("now(0)", x.now(0), 5);
        // One without a SENTENCE is kept so.
        LostKeys y = new LostKeys();
        y.image(0);
        Check.dueSentence(y, "lying", 1, 0);
        y.restore(0);
        Check.due("said(-1)", y.said(-1), -1);
    }

    private static void imageRefused() {
        Check.of("(0, 1): true; false: no such one.");
        LostKeys x = Check.town(TownTest.SHOP);
        x.image(0);
        x.days(3);
        for (int k : new int[] {-1, 2, 3, Integer.MAX_VALUE, Integer.MIN_VALUE}) {
            Check.due("image(" + k + ")", x.image(k), false);
        }
        Check.due("restore(1): nothing is kept there", x.restore(1), false);
        x.restore(0);
        Check.due("now(0)", x.now(0), 0);
    }

    private static void restore() {
        Check.of("They are as kept in place k");
        LostKeys x = Check.town(TownTest.SHOP);
        x.drop(0, 0);
        x.days(3);
        x.walk(0, 1, 0);
        Check.dueSentence(x, "had ann or near hatch", 2, 0);
        String before = Check.seen(x);
        x.image(1);
        x.town();
        Check.dueSentence(x, "not lying", 2, 0);
        Check.due("restore(1)", x.restore(1), true);
        Check.due("all is as it was", Check.seen(x).equals(before), true);
        // More than once, and what is done behind it goes.
        x.days(9);
        Check.due("restore(1) again", x.restore(1), true);
        Check.due("all is as it was", Check.seen(x).equals(before), true);
        Check.due("nearest(3, 1)", x.nearest(3, 1), 1);
        Check.due("losing(1, 2)", x.losing(1, 2), 4);
        Check.dueBook(x, 0, "ann walks 0 0;ann picks brass;ann tries brass drain;", -1, 0);
    }

    private static void restoreWhole() {
        Check.of("TOWN, all that is so and the SENTENCE are kept");
        String first = "field 6 3;room a;room b;room c;lock la b c 5 2 9;lock lb a c 0 1 18 open;man m 5 0;man n 1 2;key k m 5;key l n 6;slow 4;";
        String second = "field 3 6;room d;room e;room f;lock lc d e 2 5 40 open;lock ld d f 1 3 41;man o 0 3;man p 2 4;key q p 50;key r p 51;slow 7;";
        LostKeys x = Check.town(first);
        x.drop(0, 0);
        Check.dueSentence(x, "ward>4 and not number=1", 3, 0);
        x.image(0);
        // Twice, so that nothing of the first is left anywhere.
        for (int i = 0; i < 2; i++) {
            Check.tape(x, second);
            x.town();
            Check.dueSentence(x, i == 0 ? "lain=0 or lain=0 or lain=0 or lain=0 or had o" : "lain=0 or lain=0", i == 0 ? 5 : 2, 0);
        }
        Check.due("restore(0)", x.restore(0), true);
        LostKeys want = Check.town(first);
        want.drop(0, 0);
        Check.tape(want, "ward>4 and not number=1");
        want.sentence();
        for (int what = 0; what < 8; what++) {
            Check.due("count(" + what + ")", x.count(what), want.count(what));
            for (int i = 0; i < 2; i++) {
                Check.due("lock(" + i + ", " + what + ")", x.lock(i, what), want.lock(i, what));
                Check.due("key(" + i + ", " + what + ")", x.key(i, what), want.key(i, what));
                Check.due("man(" + i + ", " + what % 4 + ")", x.man(i, what % 4), want.man(i, what % 4));
            }
            Check.due("said(" + (what - 1) + ")", x.said(what - 1), want.said(what - 1));
        }
        for (int cell = 0; cell < 18; cell++) {
            Check.due("nearest() to " + cell, x.nearest(cell % 6, cell / 6), want.nearest(cell % 6, cell / 6));
        }
        Check.due("found() by the WARDS told", found(x, 5, 2, 1, 7), 1);
        Check.due("way(0, 2, 0)", x.way(0, 2, 0), want.way(0, 2, 0));
        Check.due("tag(1)", x.tag(1), want.tag(1));
        Check.due("drawn(40, 6)", x.drawn(40, 6), want.drawn(40, 6));
        Check.due("all is alike behind that", x.now(3) == want.now(3) && x.now(2) == want.now(2) && x.key(1, 4) == want.key(1, 4), true);
        x.undo();
        Check.dueBook(x, 0, "n drops l;m walks 4 0;", -1, 0);
        Check.dueBook(x, 0, "o walks 0 2;", -2, 3);
    }

    private static void restoreStays() {
        Check.of("(the tape, and what other calls told last, stays");
        LostKeys x = new LostKeys();
        x.image(0);
        Check.tape(x, TownTest.SHOP);
        x.town();
        x.losing(1, 2);
        x.match();
        x.way(1, 2, 0);
        found(x, 0, 0, 5, 4);
        x.twins();
        x.tag(1);
        Check.dueBook(x, 0, "ann walks 3 2;", 0, 0);
        Check.dueSentence(x, "of eve", -1 - 3, 3);
        Check.tape(x, "slow 5;");
        Check.due("restore(0)", x.restore(0), true);
        Check.due("lost(0)", x.lost(0), 2);
        Check.due("lost(1)", x.lost(1), 0);
        Check.due("matched(2)", x.matched(2), 1);
        Check.due("wayAt(0)", x.wayAt(0), 1);
        Check.due("tells()", x.tells(), 2);
        Check.due("twin(1)", x.twin(1), 2);
        Check.due("byteAt(0)", x.byteAt(0), 'i');
        Check.due("told(0)", x.told(0), 31);
        Check.due("fault()", x.fault(), 3);
        Check.due("count(7)", x.count(7), 7);
        Check.due("town()", x.town(), 1);
        Check.due("count(6)", x.count(6), 5);
    }

    private static void restoreUndo() {
        Check.of("nothing can be undone): true");
        LostKeys x = Check.town(TownTest.SHOP);
        x.days(1);
        x.image(0);
        x.days(1);
        x.days(1);
        x.restore(0);
        Check.due("undo()", x.undo(), -1);
        Check.due("now(0)", x.now(0), 1);
        x.days(1);
        Check.due("undo() of what is done behind it", x.undo(), 0);
        Check.due("now(0)", x.now(0), 1);
        Check.due("undo()", x.undo(), -1);
        // A restore() that is refused leaves them.
        x.days(1);
        x.restore(1);
        x.restore(2);
        Check.due("undo() behind refused ones", x.undo(), 0);
    }

    private static void restoreRefused() {
        Check.of("true; false: no such one, or nothing is kept there.");
        LostKeys x = Check.town(TownTest.SHOP);
        x.days(2);
        String before = Check.seen(x);
        for (int k : new int[] {-1, 0, 1, 2, Integer.MAX_VALUE, Integer.MIN_VALUE}) {
            Check.due("restore(" + k + ")", x.restore(k), false);
        }
        Check.due("all stays", Check.seen(x).equals(before), true);
        x.image(1);
        Check.due("restore(0)", x.restore(0), false);
        Check.due("restore(1)", x.restore(1), true);
        // What is kept stays kept over a new TOWN.
        x.town();
        Check.due("restore(1)", x.restore(1), true);
        Check.due("count(3)", x.count(3), 3);
    }

    private static void count() {
        Check.of("0 ROOMS, 1 LOCKS, 2 MEN, 3 KEYS, 4 WIDE, 5 HIGH, 6 'slow', 7 bytes of the tape. NONE for another what.");
        LostKeys x = Check.town("field 6 3;room a;room b;room c;lock d a b 0 0 0;man e 0 0;man f 0 0;key g e 0;key h e 0;key i e 0;key j e 0;slow 9;");
        x.feed(0, 0, 0, 0, 0);
        int[] want = {3, 1, 2, 4, 6, 3, 9, 20};
        for (int what = 0; what < 8; what++) {
            Check.due("count(" + what + ")", x.count(what), want[what]);
        }
        for (int wild : new int[] {-1, 8, 9, Integer.MAX_VALUE, Integer.MIN_VALUE}) {
            Check.due("count(" + wild + ")", x.count(wild), -1);
        }
    }
}
