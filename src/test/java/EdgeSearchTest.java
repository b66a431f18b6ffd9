/** Terms, "==== 3.": each sentence that names a boundary, tested by itself. */
public final class EdgeSearchTest {
    private static final String ROOMS = "room a;room b;";
    private static int x;

    public static void main(String[] args) {
        goesOn();
        fitting();
        losingFromNow();
        losingAlone();
        losingLike();
        matchShut();
        matchUnlike();
        matchFewest();
        matchLike();
        wayOpen();
        wayFewest();
        wayLike();
        foundBytes();
        foundWards();
        foundDays();
        tellsLeast();
        tellsLike();
        twins();
        twinsLike();
        tagPlace();
        tagFits();
        drawsWrap();
        drawnWalks();
        drawnKeys();
        drawnTries();
        drawnOrder();
        Check.finish();
    }

    private static void goesOn() {
        Check.of("All by what would go on, if nothing else is done.");
        LostKeys t = Check.town(ROOMS + "lock c a b 0 0 1;lock d a b 4 4 2;man m 0 0;man n 4 4;key k m 0;key l n 0;slow 1;");
        t.drop(0, 0);
        String before = Check.seen(t);
        Check.due("opens(0)", t.opens(0), 0);
        Check.due("opens(60): the KEY that is had opens nothing", t.opens(60), 1);
        Check.due("way(0, 1, 0)", t.way(0, 1, 0), -1);
        Check.due("fitting(0)", t.fitting(0), 1);
        Check.due("all stays", Check.seen(t).equals(before), true);
        Check.due("way(0, 1, 1)", t.way(0, 1, 1), 1);
        Check.due("now(0)", t.now(0), 0);
        Check.due("now(2)", t.now(2), 0);
    }

    private static void fitting() {
        Check.of("FITTING of a KEY that lies: how many DAYS go till it fits the NEAREST LOCK (0: it does now).");
        LostKeys t = Check.town(ROOMS + "lock c a b 0 0 3;lock d a b 4 4 0;man m 0 0;key k m 0;key l m 3;slow 4;");
        t.drop(0, 0);
        t.drop(0, 1);
        for (int day = 0; day < 10; day++) {
            // It fits the other LOCK at first; that one is not the NEAREST.
            Check.due("fitting(0) on DAY " + day, t.fitting(0), Math.max(0, 8 - day));
            Check.due("fitting(1) on DAY " + day, t.fitting(1), 0);
            t.days(1);
        }
    }

    private static void losingFromNow() {
        Check.of("LOSING of a KEY for a LOCK: if it lay, as it is now, in a cell from now on (LAIN 0)");
        LostKeys t = Check.town(ROOMS + "lock c a b 0 0 63;man m 0 0;key k m 0;key l m 63;slow 3;");
        Check.due("losing(0, 0) of six bits", t.losing(0, 0), 18);
        Check.due("losing(1, 0) of one that fits: the first DAY that 'slow' divides", t.losing(1, 0), 3);
        t.drop(0, 0);
        t.days(2);
        Check.due("losing(0, 0) of one that has LAIN 2", t.losing(0, 0), 18);
        Check.due("fitting(0) of it", t.fitting(0), 16);
        t.days(1);
        Check.due("losing(0, 0) of one that turned", t.losing(0, 0), 15);
    }

    private static void losingAlone() {
        Check.of("by itself alone, it opens that LOCK by the fewest DAYS (as if the LOCK was shut, and no other KEY lay)");
        LostKeys t = Check.town(ROOMS + "lock c a b 0 0 7 open;lock d a b 4 4 7;man m 4 4;key k m 0;key l m 7;slow 1;");
        Check.due("losing(0, 0) of an open LOCK", t.losing(0, 0), 3);
        t.drop(0, 1);
        Check.due("losing(0, 1) beside a KEY that opens it sooner", t.losing(0, 1), 3);
        // A LOCK behind another one in its cell is NEAREST to none.
        LostKeys u = Check.town(ROOMS + "lock c a b 0 0 7;lock d a b 0 0 7;man m 0 0;key k m 7;");
        Check.due("losing(0, 1) of one that is never the NEAREST", u.losing(0, 1), -1);
        Check.due("losing(0, 0)", u.losing(0, 0), 2);
    }

    private static void losingLike() {
        Check.of("by the fewest DAYS (as if the LOCK was shut, and no other KEY lay); of like ones the least Y, then the least X");
        LostKeys t = Check.town("field 6 6;" + ROOMS + "lock c a b 0 5 1;lock d a b 5 0 1;lock e a b 2 2 1;lock f a b 5 5 1;man m 0 0;key k m 1;");
        int[][] cells = {{0, 3}, {3, 0}, {0, 0}, {5, 3}};
        for (int l = 0; l < 4; l++) {
            t.losing(0, l);
            Check.due("lost(0) for LOCK " + l, t.lost(0), cells[l][0]);
            Check.due("lost(1) for LOCK " + l, t.lost(1), cells[l][1]);
        }
    }

    private static void matchShut() {
        Check.of("MATCH: to each LOCK that is shut one KEY");
        LostKeys t = Check.town(ROOMS + "lock c a b 0 0 1 open;lock d a b 0 0 2;lock e a b 0 0 4 open;man m 0 0;key k m 1;");
        Check.due("match()", t.match(), 2);
        Check.due("matched(0)", t.matched(0), -1);
        Check.due("matched(1)", t.matched(1), 0);
        Check.due("matched(2)", t.matched(2), -1);
        LostKeys open = Check.town(ROOMS + "lock c a b 0 0 1 open;");
        Check.due("match() where all are open", open.match(), 0);
        Check.due("matched(0)", open.matched(0), -1);
        Check.due("match() where nothing is", new LostKeys().match(), 0);
    }

    private static void matchUnlike() {
        Check.of("MATCH: to each LOCK that is shut one KEY, all unlike");
        LostKeys t = Check.town(ROOMS + "lock c a b 0 0 1;lock d a b 0 0 1;man m 0 0;key k m 62;key l m 1;");
        Check.due("match()", t.match(), 6);
        Check.due("matched(0)", t.matched(0), 0);
        Check.due("matched(1)", t.matched(1), 1);
        LostKeys far = Check.town(ROOMS + "lock c a b 0 0 0;lock d a b 0 0 0;lock e a b 0 0 0;lock f a b 0 0 0;lock g a b 0 0 0;lock h a b 0 0 0;"
                + "man m 0 0;key ka m 63;key kb m 63;key kc m 63;key kd m 63;key ke m 63;key kf m 63;");
        Check.due("match() of the most bits", far.match(), 36);
        for (int l = 0; l < 6; l++) {
            Check.due("matched(" + l + ")", far.matched(l), l);
        }
    }

    private static void matchFewest() {
        Check.of("so that the bits in which they differ are fewest in all");
        // The first LOCK would take key l for itself; together it must have k.
        LostKeys t = Check.town(ROOMS + "lock c a b 0 0 3;lock d a b 0 0 63;man m 0 0;key k m 0;key l m 7;");
        Check.due("match()", t.match(), 2 + 3);
        Check.due("matched(0)", t.matched(0), 0);
        Check.due("matched(1)", t.matched(1), 1);
    }

    private static void matchLike() {
        Check.of("are fewest in all; of like ones the first: LOCK by LOCK the least KEY.");
        LostKeys t = Check.town(ROOMS + "lock c a b 0 0 0;lock d a b 0 0 3;lock e a b 0 0 1;man m 0 0;key k m 1;key l m 2;key n m 1;key o m 2;");
        // c and d take one bit by any KEY, e none by k or n: of those the least for c is k, then l for d, then n for e.
        Check.due("match()", t.match(), 2);
        Check.due("matched(0)", t.matched(0), 0);
        Check.due("matched(1)", t.matched(1), 1);
        Check.due("matched(2)", t.matched(2), 2);
    }

    private static void wayOpen() {
        Check.of("WAY from a ROOM to another one through LOCKS that are open (behind n DAYS from now on)");
        LostKeys t = Check.town("room a;room b;room c;lock la a b 0 0 1 open;lock lb b c 0 0 1;man m 0 0;key k m 0;slow 3;");
        t.drop(0, 0);
        Check.due("way(0, 1, 0)", t.way(0, 1, 0), 1);
        Check.due("way(1, 0, 0), the other way", t.way(1, 0, 0), 1);
        Check.due("way(0, 2, 60): the NEAREST is the open one", t.way(0, 2, 60), -1);
        LostKeys u = Check.town("room a;room b;room c;lock la a b 4 4 1 open;lock lb b c 0 0 1;man m 0 0;key k m 0;slow 3;");
        u.drop(0, 0);
        Check.due("way(0, 2, 2)", u.way(0, 2, 2), -1);
        Check.due("way(0, 2, 3)", u.way(0, 2, 3), 2);
        Check.due("way(2, 0, 3)", u.way(2, 0, 3), 2);
        Check.due("wayAt(0)", u.wayAt(0), 1);
        Check.due("wayAt(1)", u.wayAt(1), 0);
    }

    private static void wayFewest() {
        Check.of("from now on): the fewest LOCKS");
        LostKeys t = Check.town("room a;room b;room c;room d;lock la a b 0 0 1 open;lock lb b c 0 0 1 open;lock lc c d 0 0 1 open;lock ld a d 0 0 1 open;");
        Check.due("way(0, 3, 0)", t.way(0, 3, 0), 1);
        Check.due("wayAt(0)", t.wayAt(0), 3);
        Check.due("way(1, 3, 0)", t.way(1, 3, 0), 2);
        // The longest that there is.
        LostKeys u = Check.town("room a;room b;room c;room d;room e;room f;lock la a b 0 0 1 open;lock lb b c 0 0 1 open;lock lc c d 0 0 1 open;"
                + "lock ld d e 0 0 1 open;lock le e f 0 0 1 open;lock lf a f 0 0 1;");
        Check.due("way(0, 5, 0)", u.way(0, 5, 0), 5);
        for (int i = 0; i < 5; i++) {
            Check.due("wayAt(" + i + ")", u.wayAt(i), i);
        }
        Check.due("wayAt(5)", u.wayAt(5), -1);
    }

    private static void wayLike() {
        Check.of("the fewest LOCKS; of like ones the first: LOCK by LOCK the least.");
        LostKeys t = Check.town("room a;room b;room c;room d;lock la b d 0 0 1 open;lock lb a c 0 0 1 open;lock lc a b 0 0 1 open;lock ld c d 0 0 1 open;lock le a c 0 0 1 open;"
                + "lock lf c d 0 0 1 open;");
        Check.due("way(0, 3, 0)", t.way(0, 3, 0), 2);
        Check.due("wayAt(0)", t.wayAt(0), 1);
        Check.due("wayAt(1)", t.wayAt(1), 3);
        Check.due("way(3, 0, 0)", t.way(3, 0, 0), 2);
        Check.due("wayAt(0)", t.wayAt(0), 0);
        Check.due("wayAt(1)", t.wayAt(1), 2);
    }

    private static int found(LostKeys t, int... bytes) {
        byte[] b = new byte[bytes.length];
        for (int i = 0; i < b.length; i++) {
            b[i] = (byte) bytes[i];
        }
        Check.bytes(t, b);
        return t.found();
    }

    private static void foundBytes() {
        Check.of("FOUND by the tape (4 bytes: X, Y, WARD, DAYS)");
        LostKeys t = Check.town("field 6 2;" + ROOMS + "lock c a b 5 1 0;man m 0 0;key k m 33;slow 9;");
        Check.due("found() of no byte", found(t), -1);
        Check.due("found() of 3 bytes", found(t, 5, 1, 33), -1);
        Check.due("found() of 4 bytes", found(t, 5, 1, 33, 8), 1);
        Check.due("found() of 5 bytes", found(t, 5, 1, 33, 8, 0), -1);
        Check.due("found() of 20 bytes", found(t, 5, 1, 33, 8, 0, 0, 0, 0, 0, 0, 0, 0, 0, 0, 0, 0, 0, 0, 0, 0), -1);
        Check.due("found() with X and Y changed for one another", found(t, 1, 5, 33, 8), -1);
        Check.due("found() with WARD and DAYS changed for one another", found(t, 5, 1, 8, 33), 0);
        // '0' is no digit here: bytes are numbers.
        Check.due("found() of digits", found(t, '5', '1', 33, 8), -1);
    }

    private static void foundWards() {
        Check.of("KEYS that, with the WARD told in the TOWN");
        LostKeys t = Check.town(ROOMS + "lock c a b 0 0 63;man m 0 0;key k m 0;key l m 1;slow 1;");
        t.drop(0, 0);
        t.days(3);
        Check.due("key(0, 4)", t.key(0, 4), 7);
        Check.due("found() of the WARD it has now", found(t, 0, 0, 7, 0), 0);
        Check.due("found() of the WARD told", found(t, 0, 0, 0, 0), 1);
        Check.due("found() of the WARD told, 3 DAYS on", found(t, 0, 0, 7, 3), 1);
        Check.due("found() of 2 DAYS", found(t, 0, 0, 7, 2), 2);
    }

    private static void foundDays() {
        Check.of("having LAIN just so many DAYS in that cell, would have that WARD");
        LostKeys t = Check.town("field 6 2;" + ROOMS + "lock c a b 0 0 63;lock d a b 5 0 0;man m 0 0;key k m 0;slow 9;");
        Check.due("found() of 8 DAYS", found(t, 0, 0, 0, 8), 1);
        Check.due("found() of 9 DAYS as if of 8", found(t, 0, 0, 0, 9), 0);
        Check.due("found() of 9 DAYS", found(t, 0, 0, 1, 9), 1);
        Check.due("found() of 53 DAYS", found(t, 0, 0, 31, 53), 1);
        Check.due("found() of 54 DAYS", found(t, 0, 0, 63, 54), 1);
        Check.due("found() of 255 DAYS", found(t, 0, 0, 63, 255), 1);
        Check.due("found() of 255 DAYS by the other LOCK", found(t, 3, 0, 0, 255), 1);
        Check.due("found() of 255 DAYS by the other LOCK, as if by the first", found(t, 3, 0, 63, 255), 0);
    }

    private static void tellsLeast() {
        Check.of("the greatest number of these KEYS that may still be left, if one sees the WARD, is the least");
        // By c all three have 0 behind two DAYS; by d they have 60, 61, 62; only there one sees which it was.
        LostKeys t = Check.town("field 2 3;" + ROOMS + "lock c a b 0 0 0;lock d a b 1 2 60;man m 0 0;key k m 0;key l m 1;key n m 2;key o m 63;slow 1;");
        Check.due("found()", found(t, 0, 0, 0, 2), 7);
        Check.due("tells()", t.tells(), 6 * 1 + 1);
        // Of one KEY one is left everywhere.
        Check.due("found() of one", found(t, 0, 0, 60, 2), 8);
        Check.due("tells()", t.tells(), 0);
    }

    private static void tellsLike() {
        Check.of("is the least; of like ones the least Y, then the least X");
        LostKeys t = Check.town("field 6 6;" + ROOMS + "lock c a b 0 0 0;lock d a b 5 5 3;man m 0 0;key k m 0;key l m 1;key n m 3;slow 1;");
        Check.due("found()", found(t, 0, 0, 0, 1), 3);
        // By c both have 0; by d they have 1 and 3: from the sixth step on d is nearer, first at X 5 of Y 1.
        Check.due("tells()", t.tells(), 6 * 1 + 5);
        LostKeys all = Check.town("field 6 6;" + ROOMS + "lock c a b 5 5 0;man m 0 0;key k m 0;key l m 0;");
        Check.due("found() of two alike", found(all, 5, 5, 0, 0), 3);
        Check.due("tells() where all cells are alike", all.tells(), 0);
    }

    private static void twins() {
        Check.of("TWINS: two KEYS whose WARDS differ in the fewest bits");
        LostKeys t = Check.town("man m 0 0;key k m 0;key l m 63;");
        Check.due("twins() of all six bits", t.twins(), 6);
        Check.due("twin(0)", t.twin(0), 0);
        Check.due("twin(1)", t.twin(1), 1);
        Check.due("twins() of none", Check.town("man m 0 0;key k m 5;key l m 5;").twins(), 0);
        // 31 and 32 are near as numbers, not by bits.
        LostKeys u = Check.town("man m 0 0;key k m 31;key l m 32;key n m 0;");
        Check.due("twins()", u.twins(), 1);
        Check.due("twin(0)", u.twin(0), 1);
        Check.due("twin(1)", u.twin(1), 2);
    }

    private static void twinsLike() {
        Check.of("in the fewest bits; of like ones the least first, then the least second");
        LostKeys t = Check.town("man m 0 0;key k m 0;key l m 63;key n m 62;key o m 61;key p m 1;key q m 2;");
        Check.due("twins()", t.twins(), 1);
        Check.due("twin(0)", t.twin(0), 0);
        Check.due("twin(1)", t.twin(1), 4);
        LostKeys all = Check.town("man m 0 0;key ka m 9;key kb m 9;key kc m 9;key kd m 9;key ke m 9;key kf m 9;key kg m 9;key kh m 9;");
        Check.due("twins() of eight alike", all.twins(), 0);
        Check.due("twin(0)", all.twin(0), 0);
        Check.due("twin(1)", all.twin(1), 1);
    }

    private static void dueTag(LostKeys t, int k, String want) {
        Check.due("tag(" + k + ") of " + want, t.tag(k), want.length());
        for (int i = 0; i < want.length(); i++) {
            Check.due("byteAt(" + i + ") of " + want, t.byteAt(i), want.charAt(i));
        }
        Check.due("byteAt() behind " + want, t.byteAt(want.length()), -1);
    }

    private static void tagPlace() {
        Check.of("TAG of a KEY: its NAME, then ' had by ' and the MAN's NAME, or ' lies at ', X as digits, a blank, Y as digits");
        LostKeys t = Check.town("field 6 6;man m 5 0;man anybody 0 5;key k m 0;key zzzzzzz anybody 0;");
        dueTag(t, 0, "k had by m");
        dueTag(t, 1, "zzzzzzz had by anybody");
        t.drop(0, 0);
        t.drop(1, 1);
        dueTag(t, 0, "k lies at 5 0");
        dueTag(t, 1, "zzzzzzz lies at 0 5");
        t.walk(0, 4, 0);
        dueTag(t, 0, "k lies at 5 0");
        t.walk(0, 5, 0);
        t.pick(0, 0);
        t.walk(0, 4, 0);
        dueTag(t, 0, "k had by m");
    }

    private static void tagFits() {
        Check.of("behind it, if it fits one, ' fits ' and the NAME of the first LOCK that it fits");
        LostKeys t = Check.town(ROOMS + "lock c a b 0 0 1;lock azazaza a b 4 4 63;lock e a b 0 0 63 open;man azazazb 0 0;key azazazc azazazb 63;key k azazazb 2;");
        dueTag(t, 0, "azazazc had by azazazb fits azazaza");
        dueTag(t, 1, "k had by azazazb");
        t.drop(0, 1);
        dueTag(t, 1, "k lies at 0 0");
        t.days(4);
        dueTag(t, 1, "k lies at 0 0 fits c");
    }

    private static int draw() {
        x = x * 1103515245 + 12345;
        return (x >>> 8) % 4;
    }

    /** A seed whose first draws are these. */
    private static int seedOf(int... draws) {
        for (int seed = 1; seed < 100000; seed++) {
            x = seed;
            boolean right = true;
            for (int d : draws) {
                right &= draw() == d;
            }
            if (right) {
                return seed;
            }
        }
        throw new IllegalStateException("no such seed");
    }

    private static void drawsWrap() {
        Check.of("for each draw of n x becomes x * 1103515245 + 12345 (an int, wrapping), the draw is (x >>> 8) % n");
        // Told by hand: 2147483647 * 1103515245 + 12345 is 1043980748 as an int, -1 gives -1103502900, -2147483648 gives -2147471303.
        int[] seeds = {Integer.MAX_VALUE, -1, Integer.MIN_VALUE, 0};
        int[] becomes = {1043980748, -1103502900, -2147471303, 12345};
        for (int i = 0; i < 4; i++) {
            int first = (becomes[i] >>> 8) % 4;
            LostKeys t = Check.town("man m 2 2;key k m 0;key l m 0;");
            t.drop(0, 1);
            t.drawn(1, seeds[i]);
            Check.due("now(1) by the first draw of " + seeds[i], t.now(1), first == 1 ? 3 : first == 2 ? 0 : 2);
            boolean walked = t.man(0, 0) != 2 || t.man(0, 1) != 2;
            Check.due("a walk by the first draw of " + seeds[i], walked, first == 0);
        }
    }

    private static void dueCell(LostKeys t, int seed, int x, int y) {
        t.drawn(1, seed);
        Check.due("X", t.man(0, 0), x);
        Check.due("Y", t.man(0, 1), y);
        t.undo();
    }

    private static void drawnWalks() {
        Check.of("he walks (0 X more, 1 X less, 2 Y more, 3 Y less; beyond the field: nothing)");
        LostKeys first = Check.town("field 3 2;man m 0 0;");
        dueCell(first, seedOf(0, 0), 1, 0);
        dueCell(first, seedOf(0, 1), 0, 0);
        dueCell(first, seedOf(0, 2), 0, 1);
        dueCell(first, seedOf(0, 3), 0, 0);
        LostKeys last = Check.town("field 3 2;man m 2 1;");
        dueCell(last, seedOf(0, 0), 2, 1);
        dueCell(last, seedOf(0, 1), 1, 1);
        dueCell(last, seedOf(0, 2), 2, 1);
        dueCell(last, seedOf(0, 3), 2, 0);
        // The DAY goes all the same, and so does the next MAN's draw.
        LostKeys two = Check.town("field 3 2;man m 2 1;man n 2 1;");
        two.drawn(1, seedOf(0, 0, 0, 1));
        Check.due("man(0, 0)", two.man(0, 0), 2);
        Check.due("man(1, 0)", two.man(1, 0), 1);
        Check.due("now(0)", two.now(0), 1);
    }

    private static void drawnKeys() {
        Check.of("1: he drops the first KEY that he has; 2: he picks the first that lies in his cell");
        LostKeys t = Check.town("man m 2 2;man n 3 3;key ka n 0;key kb m 0;key kc m 0;");
        String before = Check.seen(t);
        t.drawn(1, seedOf(2, 3));
        Check.due("pick where none lies: now(1)", t.now(1), 0);
        t.undo();
        Check.due("all stays", Check.seen(t).equals(before), true);
        t.drawn(1, seedOf(1, 1));
        Check.due("drop of the first of each", t.now(1), 3);
        t.drawn(1, seedOf(1, 1));
        Check.due("drop of the second, and of none", t.now(1), 7);
        t.drawn(1, seedOf(2, 2));
        Check.due("pick of the first in the cell of each", t.now(1), 4);
        Check.due("key(0, 1)", t.key(0, 1), 1);
        Check.due("key(1, 1)", t.key(1, 1), 0);
        t.drawn(1, seedOf(2, 2));
        Check.due("pick of the second, and of none", t.now(1), 0);
    }

    private static void drawnTries() {
        Check.of("3: he tries the first that he has at the first LOCK in his cell (each, if there is one; it need not fit)");
        LostKeys t = Check.town(ROOMS + "lock c a b 4 4 9;lock d a b 2 2 9;lock e a b 2 2 7;man m 2 2;key k m 7;key l m 9;");
        t.drawn(1, seedOf(3));
        Check.due("the first KEY does not fit the first LOCK: now(2)", t.now(2), 0);
        t.drop(0, 0);
        t.drawn(1, seedOf(3));
        Check.due("the second KEY is the first that he has: now(2)", t.now(2), 2);
        t.drawn(1, seedOf(3));
        Check.due("it shuts it again: now(2)", t.now(2), 0);
        t.drop(0, 1);
        t.drawn(1, seedOf(3));
        Check.due("he has none: now(2)", t.now(2), 0);
        // The first LOCK of all, if it is in his cell; not one that is by X or Y alone.
        LostKeys here = Check.town(ROOMS + "lock c a b 2 2 9;lock d a b 2 2 9;man m 2 2;key k m 9;");
        here.drawn(1, seedOf(3));
        Check.due("now(2)", here.now(2), 1);
        LostKeys third = Check.town(ROOMS + "lock c a b 2 4 9;lock d a b 4 2 9;lock e a b 2 2 9;man m 2 2;key k m 9;");
        third.drawn(1, seedOf(3));
        Check.due("now(2)", third.now(2), 4);
        LostKeys none = Check.town(ROOMS + "lock c a b 4 4 9;man m 2 2;key k m 9;");
        none.drawn(1, seedOf(3));
        Check.due("no LOCK is in his cell: now(2)", none.now(2), 0);
        Check.due("now(0)", none.now(0), 1);
    }

    private static void drawnOrder() {
        Check.of("each DAY: MAN by MAN: a draw of 4");
        LostKeys t = Check.town(ROOMS + "lock c a b 0 0 1;man m 0 0;man n 0 0;key k m 1;slow 1;");
        t.drawn(1, seedOf(1, 2));
        Check.due("the first drops it, the second picks it: key(0, 1)", t.key(0, 1), 1);
        Check.due("now(2)", t.now(2), 0);
        t.undo();
        t.drawn(1, seedOf(1, 3));
        Check.due("then the DAY: now(2)", t.now(2), 1);
        t.undo();
        // Two DAYS in one call go on by the same seed; two calls do not.
        t.drawn(2, seedOf(1, 3, 2, 3));
        Check.due("dropped on the first DAY, picked on the second: key(0, 1)", t.key(0, 1), 0);
        Check.due("now(2)", t.now(2), 1);
        Check.due("now(0)", t.now(0), 2);
    }
}
