/** What names no boundary, but a form, an order or a way: the words of the document that the other Edge tests leave, each by itself. */
public final class EdgeFormTest {
    private static final String ROOMS = "room a;room b;";

    public static void main(String[] args) {
        room();
        lock();
        man();
        bookLines();
        lying();
        compared();
        turnedAndNumber();
        nextDay();
        losingCell();
        tellingDays();
        seed();
        walkDraws();
        thenTheDay();
        keyNow();
        wardNow();
        bookTape();
        sentenceTape();
        Check.finish();
    }

    /** The LINE is right as it stands; with any of its TOKENS left out, or one more, it is not. */
    private static void dueLine(String ahead, String line) {
        int lines = ahead.split(";").length;
        Check.dueTown(ahead + line + ";", lines + 1, 0);
        String[] tokens = line.split(" ");
        for (int gone = 0; gone < tokens.length; gone++) {
            StringBuilder rest = new StringBuilder();
            for (int i = 0; i < tokens.length; i++) {
                rest.append(i == gone ? "" : tokens[i] + " ");
            }
            LostKeys x = new LostKeys();
            Check.tape(x, ahead + rest + ";");
            Check.due("town() of \"" + line + "\" without token " + gone + " has a FAULT", x.town() < 0, true);
        }
        Check.dueTown(ahead + line + " 0;", -1 - ahead.length() - line.length() - 1, 1);
        Check.dueTown(ahead + line + " a;", -1 - ahead.length() - line.length() - 1, 1);
    }

    private static void room() {
        Check.of("'room' NAME");
        dueLine("man m 0 0;", "room c");
        Check.due("count(0)", Check.town("room c;room d;").count(0), 2);
    }

    private static void lock() {
        Check.of("'lock' NAME ROOM ROOM X Y WARD");
        dueLine(ROOMS, "lock c a b 1 2 3");
        LostKeys x = Check.town("field 5 4;" + ROOMS + "room d;lock c d b 4 3 42;");
        int[] told = {2, 1, 4, 3, 42, 0};
        for (int what = 0; what < told.length; what++) {
            Check.due("lock(0, " + what + ")", x.lock(0, what), told[what]);
        }
    }

    private static void man() {
        Check.of("'man' NAME X Y");
        dueLine(ROOMS, "man m 1 2");
        LostKeys x = Check.town("field 5 4;man m 4 3;man n 0 2;");
        Check.due("man(0, 0)", x.man(0, 0), 4);
        Check.due("man(0, 1)", x.man(0, 1), 3);
        Check.due("man(1, 0)", x.man(1, 0), 0);
        Check.due("man(1, 1)", x.man(1, 1), 2);
    }

    private static void bookLines() {
        Check.of("MAN ( 'drops' KEY | 'picks' KEY | 'tries' KEY LOCK | 'walks' X Y ) | 'day' N");
        LostKeys x = Check.town(ROOMS + "lock c a b 1 0 7;man m 0 0;man n 1 0;key k m 1;key l n 7;slow 9;");
        Check.dueBook(x, 1, "m drops k;n tries l c;m walks 1 0;n walks 0 0;n picks k;day 3;m walks 1 1;", -1, 0);
        Check.due("told(1)", x.told(1), 7);
        Check.due("key(0, 1)", x.key(0, 1), 1);
        Check.due("now(2)", x.now(2), 1);
        Check.due("now(0)", x.now(0), 3);
        Check.due("man(0, 1)", x.man(0, 1), 1);
        String[] halves = {"m;", "m drops;", "m picks;", "n tries l;", "n tries;", "m walks 1;", "m walks;", "day;"};
        for (String half : halves) {
            Check.dueBook(x, 1, half, -2 - half.length() + 1, 1);
        }
        String[] more = {"m drops k 0;", "m picks k c;", "n tries l c 1;", "m walks 1 1 1;", "day 1 1;", "m day 1;", "k drops k;"};
        int[] places = {10, 10, 12, 12, 6, 2, 0};
        for (int i = 0; i < more.length; i++) {
            Check.dueBook(x, 1, more[i], -2 - places[i], i == 6 ? 3 : 1);
        }
        Check.due("told(1) of the latest without a FAULT", x.told(1), 7);
    }

    /** The SENTENCE is said of these KEYS, as bits. */
    private static void dueSaid(LostKeys x, String text, int keys) {
        Check.tape(x, text);
        Check.due("sentence() of \"" + text + "\" has no FAULT", x.sentence() > 0, true);
        int said = 0;
        for (int i = 0; i < x.said(-1); i++) {
            said |= 1 << x.said(i);
        }
        Check.due("KEYS of \"" + text + "\"", said, keys);
    }

    private static void lying() {
        Check.of("'lying'");
        LostKeys x = Check.town("man m 0 0;man n 3 3;key k m 1;key l n 2;key o m 3;");
        dueSaid(x, "lying", 0);
        x.drop(0, 2);
        x.drop(1, 1);
        dueSaid(x, "lying", 6);
        x.pick(0, 2);
        dueSaid(x, "lying", 2);
        x.undo();
        Check.due("said(-1) of the same SENTENCE now", x.said(-1), 2);
        Check.dueSentence(x, "lying m", -1 - 6, 1);
    }

    private static void compared() {
        Check.of("( 'ward' | 'lain' | 'turned' | 'number' ) SIGN NUMBER (as it is");
        LostKeys x = Check.town(ROOMS + "lock c a b 0 0 12;man m 0 0;key k m 13;key l m 12;slow 1;");
        dueSaid(x, "ward=13", 1);
        dueSaid(x, "ward=12", 2);
        x.drop(0, 0);
        x.days(1);
        dueSaid(x, "ward=13", 0);
        dueSaid(x, "ward=12", 3);
        dueSaid(x, "lain=1", 1);
        for (String word : new String[] {"ward", "lain", "turned", "number"}) {
            Check.dueSentence(x, word, -1 - word.length(), 1);
            Check.dueSentence(x, word + "=", -1 - word.length() - 1, 1);
            Check.dueSentence(x, word + "(1", -1 - word.length(), 1);
            Check.dueSentence(x, word + "=c", -1 - word.length() - 1, 1);
            Check.dueSentence(x, word + "=1=1", -1 - word.length() - 2, 1);
            Check.dueSentence(x, word + " = 001", 1, 0);
        }
    }

    private static void turnedAndNumber() {
        Check.of("how often it changed so far; its number)");
        LostKeys x = Check.town(ROOMS + "lock c a b 0 0 15;man m 0 0;key k m 0;key l m 12;key o m 15;slow 1;");
        for (int k = 0; k < 3; k++) {
            x.drop(0, k);
        }
        x.days(3);
        dueSaid(x, "turned=3", 1);
        dueSaid(x, "turned=2", 2);
        dueSaid(x, "turned=0", 4);
        // So far, not since it was dropped.
        x.pick(0, 0);
        x.drop(0, 0);
        dueSaid(x, "turned=3", 1);
        x.days(1);
        dueSaid(x, "turned=4", 1);
        for (int k = 0; k < 3; k++) {
            dueSaid(x, "number=" + k, 1 << k);
        }
        dueSaid(x, "number>2", 0);
    }

    private static void nextDay() {
        Check.of("It is the next DAY.");
        LostKeys x = Check.town("man m 0 0;");
        for (int day = 1; day < 4; day++) {
            x.days(1);
            Check.due("now(0) behind days(1)", x.now(0), day);
        }
        x.drawn(1, 0);
        Check.due("now(0) behind drawn(1, 0)", x.now(0), 4);
        Check.dueBook(x, 1, "day 1;", -1, 0);
        Check.due("now(0) behind a BOOK", x.now(0), 5);
        x.walk(0, 1, 0);
        Check.due("now(0) behind an act", x.now(0), 5);
        x.opens(60);
        x.way(0, 0, 60);
        x.odds(0, 30, 1);
        Check.due("now(0) behind what would be", x.now(0), 5);
    }

    private static void losingCell() {
        Check.of("the cell in which, by itself alone, it opens that LOCK");
        // Another LOCK is on the way: lost by that one, the KEY would come to fit that one, and never the LOCK that is asked for.
        LostKeys x = Check.town("field 6 2;" + ROOMS + "lock c a b 0 0 1;lock d a b 5 1 3;man m 0 0;key k m 0;slow 1;");
        Check.due("losing(0, 1)", x.losing(0, 1), 2);
        Check.due("lost(0)", x.lost(0), 4);
        Check.due("lost(1)", x.lost(1), 0);
        // As far from the one as from the other.
        Check.due("nearest(3, 0)", x.nearest(3, 0), 0);
    }

    private static int found(LostKeys x, int cellX, int cellY, int ward, int days) {
        Check.bytes(x, new byte[] {(byte) cellX, (byte) cellY, (byte) ward, (byte) days});
        return x.found();
    }

    private static void tellingDays() {
        Check.of("TELLS: the cell by which, lain in for as many DAYS (all else so)");
        // By d the two WARDS are 0 and 1 ahead of any change, 1 and 3 behind one, 3 and 3 behind two.
        LostKeys x = Check.town("field 6 2;" + ROOMS + "lock c a b 0 0 0;lock d a b 5 0 3;man m 0 0;key k m 0;key l m 1;key n m 8;slow 2;");
        Check.due("found() of 2 DAYS", found(x, 0, 0, 0, 2), 7);
        Check.due("tells()", x.tells(), 3);
        Check.due("found() of 5 DAYS", found(x, 0, 0, 0, 5), 7);
        Check.due("tells()", x.tells(), 3);
        // As they were told, not as they are: what lies and changes meanwhile is all the same.
        x.drop(0, 0);
        x.days(9);
        Check.due("found() of 2 DAYS later", found(x, 0, 0, 0, 2), 7);
        Check.due("tells()", x.tells(), 3);
    }

    private static void seed() {
        Check.of("DRAWN by a seed x");
        LostKeys x = Check.town(ROOMS + "lock c a b 2 2 5;man m 2 2;man n 1 2;key k m 5;key l n 4;slow 1;");
        String before = Check.seen(x);
        x.drawn(9, 77);
        String by77 = Check.seen(x);
        x.undo();
        Check.due("all is as it was", Check.seen(x).equals(before), true);
        x.drawn(9, 77);
        Check.due("the same by the same seed", Check.seen(x).equals(by77), true);
        x.undo();
        boolean another = false;
        for (int s = 0; s < 5; s++) {
            x.drawn(9, s);
            another |= !Check.seen(x).equals(by77);
            x.undo();
        }
        Check.due("another by another seed", another, true);
    }

    /** The seed's next value, by the document's words. */
    private static int next(int x) {
        return x * 1103515245 + 12345;
    }

    private static int draw(int x) {
        return (x >>> 8) % 4;
    }

    private static void walkDraws() {
        Check.of("0: a draw of 4: he walks");
        int tested = 0;
        for (int s = 0; s < 200 && tested < 20; s++) {
            int first = next(s);
            int second = next(first);
            int third = next(second);
            if (draw(first) == 0) {
                // The walk takes a draw of its own, so the next MAN's is the third.
                LostKeys x = Check.town("man m 2 2;man n 2 2;key k n 0;");
                x.drawn(1, s);
                int way = draw(second);
                Check.due("man(0, 0) by " + s, x.man(0, 0), way == 0 ? 3 : way == 1 ? 1 : 2);
                Check.due("man(0, 1) by " + s, x.man(0, 1), way == 2 ? 3 : way == 3 ? 1 : 2);
                Check.due("the next MAN drops by " + s, x.now(1), draw(third) == 1 ? 1 : 0);
                tested++;
            }
        }
        Check.due("seeds tested", tested, 20);
    }

    private static void thenTheDay() {
        Check.of("then the DAY.");
        // What is dropped by draws has LAIN a DAY when that DAY is over, also by the last of the MEN.
        int s = 0;
        while (s < 1000 && draw(next(s)) != 1) {
            s++;
        }
        LostKeys x = Check.town(ROOMS + "lock c a b 0 0 1;man m 0 0;key k m 0;slow 1;");
        x.drawn(1, s);
        Check.due("key(0, 1)", x.key(0, 1), -1);
        Check.due("key(0, 5)", x.key(0, 5), 1);
        Check.due("key(0, 6)", x.key(0, 6), 1);
        Check.due("now(2)", x.now(2), 1);
        Check.due("now(0)", x.now(0), 1);
    }

    private static void keyNow() {
        Check.of("Of a KEY: 0 whose it was at first, 1 who has it");
        LostKeys x = Check.town("man m 0 0;man n 0 0;key k n 0;key l m 0;");
        x.drop(1, 0);
        x.pick(0, 0);
        Check.due("key(0, 0)", x.key(0, 0), 1);
        Check.due("key(0, 1)", x.key(0, 1), 0);
        Check.due("key(1, 0)", x.key(1, 0), 0);
        Check.due("key(1, 1)", x.key(1, 1), 0);
    }

    private static void wardNow() {
        Check.of("4 WARD, 5 DAYS that it has LAIN");
        LostKeys x = Check.town(ROOMS + "lock c a b 0 0 63;man m 0 0;key k m 8;slow 2;");
        Check.due("key(0, 4)", x.key(0, 4), 8);
        x.drop(0, 0);
        x.days(4);
        Check.due("key(0, 4) behind two changes", x.key(0, 4), 11);
        Check.due("key(0, 5)", x.key(0, 5), 4);
        x.undo();
        Check.due("key(0, 4) as it was", x.key(0, 4), 8);
    }

    private static void bookTape() {
        Check.of("The tape is a BOOK: it is judged");
        LostKeys x = Check.town("man m 0 0;");
        Check.dueBook(x, 0, "m walks 1 0;", -1, 0);
        Check.due("book(0) of an empty tape", x.book(0), -1);
        Check.due("told(1)", x.told(1), 0);
        Check.dueBook(x, 0, "room a;", -2, 1);
        Check.dueBook(x, 0, "lying", -2, 1);
    }

    private static void sentenceTape() {
        Check.of("The tape is the SENTENCE now: how many ONES");
        LostKeys x = Check.town("man m 0 0;key k m 0;");
        Check.dueSentence(x, "lying", 1, 0);
        Check.due("said(-1)", x.said(-1), 0);
        Check.dueSentence(x, "not lying", 2, 0);
        Check.due("said(-1) by the new one", x.said(-1), 1);
        Check.due("sentence() of an empty tape", x.sentence(), -1);
        Check.due("fault()", x.fault(), 1);
        Check.due("said(-1) by the one that stays", x.said(-1), 1);
        Check.dueSentence(x, "m walks 1 0;", -1, 1);
    }
}
