/** Terms, TOWN, BOOK and SENTENCE: each sentence that names a boundary, tested by itself. */
public final class EdgeTextTest {
    private static final String ROOMS = "room a;room b;";
    private static final String[] WORDS = {"field", "room", "lock", "open", "man", "key", "slow", "drops", "picks", "tries", "walks",
        "day", "or", "and", "not", "lying", "of", "had", "fits", "near", "ward", "lain", "turned", "number"};

    public static void main(String[] args) {
        townBytes();
        townLines();
        fieldSides();
        fieldOnce();
        fieldWithout();
        lockUnlike();
        severalBetween();
        lockWard();
        severalInCell();
        openOrNot();
        keyHad();
        slowDays();
        slowWithout();
        cells();
        names();
        toldOnce();
        atMost();
        numbered();
        bookBytes();
        bookLines();
        bookCells();
        bookDays();
        sentenceBytes();
        ones();
        within();
        orAndNot();
        ofAndHad();
        fits();
        nearest();
        lain();
        compared();
        saidOfKeys();
        Check.finish();
    }

    private static void townBytes() {
        Check.of("A TOWN is a text of at most 900 bytes");
        Check.dueTown(Check.repeat(" ", 893) + "room a;", 1, 0);
        Check.dueTown(Check.repeat(" ", 894) + "room a;", -1 - 900, 1);
        Check.dueTown(Check.repeat(" ", 900), 0, 0);
        Check.dueTown(Check.repeat(" ", 901), -1 - 900, 1);
        Check.dueTown(Check.repeat("\n", 940), -1 - 900, 1);
    }

    private static void townLines() {
        Check.of("A TOWN is a text of at most 900 bytes: { LINE ; }");
        Check.dueTown("", 0, 0);
        Check.dueTown(" ", 0, 0);
        Check.dueTown("room a;", 1, 0);
        Check.dueTown("room a", -1 - 6, 1);
        Check.dueTown(";", -1, 1);
        Check.dueTown("room a;;", -1 - 7, 1);
    }

    private static void fieldSides() {
        Check.of("LINE: 'field' WIDE HIGH (2 to 6 each");
        for (int side = 0; side < 10; side++) {
            boolean right = side >= 2 && side <= 6;
            Check.dueTown("field " + side + " 3;", right ? 1 : -1 - 6, right ? 0 : 2);
            Check.dueTown("field 3 " + side + ";", right ? 1 : -1 - 8, right ? 0 : 2);
        }
        LostKeys x = Check.town("field 2 6;");
        Check.due("count(4)", x.count(4), 2);
        Check.due("count(5)", x.count(5), 6);
    }

    private static void fieldOnce() {
        Check.of("once, ahead of all locks and men");
        Check.dueTown("field 6 6;field 6 6;", -1 - 10, 3);
        Check.dueTown("man m 0 0;field 6 6;", -1 - 10, 3);
        Check.dueTown(ROOMS + "lock c a b 0 0 0;field 6 6;", -1 - 31, 3);
        Check.dueTown(ROOMS + "field 6 6;lock c a b 5 5 0;man m 5 5;", 5, 0);
    }

    private static void fieldWithout() {
        Check.of("5 by 5 without");
        LostKeys x = Check.town("man m 4 4;");
        Check.due("count(4)", x.count(4), 5);
        Check.due("count(5)", x.count(5), 5);
        Check.dueTown("man m 5 4;", -1 - 6, 2);
        Check.dueTown("man m 4 5;", -1 - 8, 2);
        // Also behind a TOWN of another size, and behind one with a FAULT.
        Check.tape(x, "field 6 6;man m 5 5;");
        x.town();
        Check.tape(x, "field 2 3;!");
        x.town();
        Check.due("count(4) behind a FAULT", x.count(4), 6);
        Check.tape(x, "man m 5 4;");
        Check.due("town()", x.town(), -1 - 6);
        Check.tape(x, "man m 4 4;");
        Check.due("town()", x.town(), 1);
        Check.due("count(4)", x.count(4), 5);
        Check.due("count(5)", x.count(5), 5);
    }

    private static void lockUnlike() {
        Check.of("(unlike");
        Check.dueTown(ROOMS + "lock c a a 0 0 0;", -1 - 23, 3);
        Check.dueTown(ROOMS + "lock c a b 0 0 0;", 3, 0);
    }

    private static void severalBetween() {
        Check.of("several between two let");
        LostKeys x = Check.town(ROOMS + "lock c a b 0 0 1;lock d a b 1 0 2;lock e b a 2 0 3;lock f a b 3 0 4;lock g a b 4 0 5;lock h b a 4 1 6;");
        Check.due("count(1)", x.count(1), 6);
        Check.due("lock(2, 0)", x.lock(2, 0), 1);
        Check.due("lock(2, 1)", x.lock(2, 1), 0);
        Check.due("lock(5, 1)", x.lock(5, 1), 0);
    }

    private static void lockWard() {
        Check.of("WARD 0 to 63");
        Check.due("lock(0, 4)", Check.town(ROOMS + "lock c a b 0 0 0;").lock(0, 4), 0);
        Check.due("lock(0, 4)", Check.town(ROOMS + "lock c a b 0 0 63;").lock(0, 4), 63);
        Check.dueTown(ROOMS + "lock c a b 0 0 64;", -1 - 29, 2);
        Check.due("key(0, 4)", Check.town("man m 0 0;key k m 0;").key(0, 4), 0);
        Check.due("key(0, 4)", Check.town("man m 0 0;key k m 63;").key(0, 4), 63);
        Check.dueTown("man m 0 0;key k m 64;", -1 - 18, 2);
    }

    private static void severalInCell() {
        Check.of("several in a cell let");
        LostKeys x = Check.town(ROOMS + "lock c a b 3 3 1;lock d a b 3 3 1;lock e a b 3 3 1;man m 3 3;key k m 1;");
        for (int l = 0; l < 3; l++) {
            Check.due("tries(0, 0, " + l + ")", x.tries(0, 0, l), 0);
        }
        Check.due("now(2)", x.now(2), 7);
    }

    private static void openOrNot() {
        Check.of("[ 'open' ]");
        LostKeys x = Check.town(ROOMS + "lock c a b 0 0 1;lock d a b 0 0 1 open;lock e a b 0 0 1;");
        Check.due("now(2)", x.now(2), 2);
        Check.due("lock(0, 5)", x.lock(0, 5), 0);
        Check.due("lock(1, 5)", x.lock(1, 5), 1);
        // Not by what was open in a TOWN that was.
        for (int i = 0; i < 3; i++) {
            Check.tape(x, ROOMS + "lock c a b 0 0 1;lock d a b 0 0 1;lock e a b 0 0 1;");
            x.town();
            Check.due("now(2)", x.now(2), 0);
        }
        Check.dueTown(ROOMS + "lock c a b 0 0 1 open open;", -1 - 36, 1);
        Check.dueTown(ROOMS + "lock c a b 0 0 open;", -1 - 29, 1);
    }

    private static void keyHad() {
        Check.of("'key' NAME MAN WARD (he has it)");
        LostKeys x = Check.town("man m 4 0;man n 0 4;key k n 1;");
        Check.due("key(0, 1)", x.key(0, 1), 1);
        Check.due("key(0, 2)", x.key(0, 2), 0);
        Check.due("key(0, 3)", x.key(0, 3), 4);
        Check.due("key(0, 5)", x.key(0, 5), 0);
        Check.due("now(1)", x.now(1), 0);
    }

    private static void slowDays() {
        Check.of("'slow' N (1 to 9 days; once");
        for (int n = 0; n < 12; n++) {
            boolean right = n >= 1 && n <= 9;
            Check.dueTown("slow " + n + ";", right ? 1 : -1 - 5, right ? 0 : 2);
        }
        Check.dueTown("slow 1;slow 1;", -1 - 7, 3);
        Check.due("count(6)", Check.town("slow 1;").count(6), 1);
        Check.due("count(6)", Check.town("slow 9;").count(6), 9);
        // It may stand behind all others.
        Check.dueTown("man m 0 0;key k m 1;slow 9;", 3, 0);
    }

    private static void slowWithout() {
        Check.of("2 without");
        LostKeys x = Check.town("slow 9;");
        Check.tape(x, ROOMS + "lock c a b 0 0 1;man m 0 0;key k m 0;");
        x.town();
        Check.due("count(6)", x.count(6), 2);
        x.drop(0, 0);
        x.days(1);
        Check.due("now(3) behind a day", x.now(3), 0);
        x.days(1);
        Check.due("now(3) behind two", x.now(3), 1);
    }

    private static void cells() {
        Check.of("X 0 to WIDE less 1, Y 0 to HIGH less 1.");
        for (int n = 0; n < 8; n++) {
            Check.dueTown("field 3 6;man m " + n + " 5;", n < 3 ? 2 : -1 - 16, n < 3 ? 0 : 2);
            Check.dueTown("field 3 6;man m 2 " + n + ";", n < 6 ? 2 : -1 - 18, n < 6 ? 0 : 2);
            Check.dueTown("field 6 2;" + ROOMS + "lock c a b " + n + " 1 0;", n < 6 ? 4 : -1 - 35, n < 6 ? 0 : 2);
            Check.dueTown("field 6 2;" + ROOMS + "lock c a b 5 " + n + " 0;", n < 2 ? 4 : -1 - 37, n < 2 ? 0 : 2);
        }
    }

    private static void names() {
        Check.of("NAME: a WORD, none of those told here, in a BOOK or a SENTENCE");
        for (String word : WORDS) {
            Check.dueTown("room " + word + ";", -1 - 5, 1);
            Check.dueTown("man " + word + " 0 0;", -1 - 4, 1);
            Check.dueTown("man m 0 0;key " + word + " m 0;", -1 - 14, 1);
            Check.dueTown(ROOMS + "lock " + word + " a b 0 0 0;", -1 - 19, 1);
            // A letter more or less makes it a NAME.
            Check.dueTown("room " + word.substring(1) + "x;", 1, 0);
            Check.dueTown("room x" + word.substring(1) + ";", 1, 0);
        }
        Check.dueTown("room days;room drop;room name;room town;room book;room none;", 6, 0);
    }

    private static void toldOnce() {
        Check.of("told once");
        Check.dueTown("room a;man b 0 0;key c b 0;room d;lock e a d 0 0 0;", 5, 0);
        Check.dueTown("room a;man b 0 0;key c b 0;room d;lock c a d 0 0 0;", -1 - 39, 3);
        // A NAME of the TOWN that was may be told again, as of another sort too.
        LostKeys x = Check.town("room a;man b 0 0;");
        Check.tape(x, "man a 0 0;room b;");
        Check.due("town() with the NAMES of the last", x.town(), 2);
        // So may one that a TOWN with a FAULT told.
        Check.tape(x, "room c;room d;!");
        x.town();
        Check.tape(x, "room c;room d;");
        Check.due("town() with the NAMES of one with a FAULT", x.town(), 2);
    }

    private static String many(String before, String after, int n) {
        StringBuilder b = new StringBuilder();
        for (int i = 0; i < n; i++) {
            b.append(before).append((char) ('a' + i)).append(after);
        }
        return b.toString();
    }

    private static void atMost() {
        Check.of("6 ROOMS, 6 LOCKS, 5 MEN, 8 KEYS at most");
        LostKeys x = Check.town(many("room r", ";", 6) + many("lock l", " ra rf 4 4 63;", 6) + many("man m", " 4 4;", 5)
                + many("key k", " me 63;", 8));
        Check.due("count(0)", x.count(0), 6);
        Check.due("count(1)", x.count(1), 6);
        Check.due("count(2)", x.count(2), 5);
        Check.due("count(3)", x.count(3), 8);
        Check.dueTown(many("room r", ";", 7), -1 - 48, 4);
        Check.dueTown(many("room r", ";", 2) + many("lock l", " ra rb 0 0 0;", 7), -1 - 136, 4);
        Check.dueTown(many("man m", " 0 0;", 6), -1 - 55, 4);
        Check.dueTown(many("man m", " 0 0;", 1) + many("key k", " ma 0;", 9), -1 - 107, 4);
        // The last of each is there, and can do all.
        Check.due("man(4, 2)", x.man(4, 2), 255);
        Check.due("tries(4, 7, 5)", x.tries(4, 7, 5), 0);
        Check.due("now(2)", x.now(2), 32);
        Check.due("drop(4, 7)", x.drop(4, 7), 0);
        Check.due("man(4, 3)", x.man(4, 3), 128);
        Check.due("way(5, 0, 0)", x.way(5, 0, 0), 1);
        fullGoesOn(x);
    }

    /** Where there are as many as may be, all goes on as where there are few; and nothing of them is left in the next TOWN. */
    private static void fullGoesOn(LostKeys x) {
        Check.due("walk(4, 3, 4)", x.walk(4, 3, 4), 0);
        Check.due("key(6, 2) that he has", x.key(6, 2), 3);
        Check.due("key(7, 2) that lies", x.key(7, 2), 4);
        Check.due("days(2)", x.days(2), 2);
        Check.due("key(7, 5)", x.key(7, 5), 2);
        Check.due("now(2): the first LOCK too", x.now(2), 33);
        Check.due("match()", x.match(), 0);
        Check.due("matched(1)", x.matched(1), 0);
        Check.due("matched(4)", x.matched(4), 3);
        Check.due("twins()", x.twins(), 0);
        Check.due("losing(7, 0)", x.losing(7, 0), 2);
        Check.due("odds(5, 30, 1)", x.odds(5, 30, 1) >= 0, true);
        for (int seed = 0; seed < 5; seed++) {
            Check.due("drawn(60, " + seed + ")", x.drawn(60, seed), 60);
            Check.dueSentence(x, "fits lf and not near lf", 3, 0);
            Check.due("said(-1)", x.said(-1), 8);
        }
        for (int k = 0; k < 8; k++) {
            x.drop(x.key(k, 1), k);
        }
        Check.due("now(1)", x.now(1), 255);
        Check.tape(x, ROOMS + "lock c a b 0 0 1;man m 0 0;key k m 0;slow 1;");
        x.town();
        Check.due("days(9)", x.days(9), 9);
        Check.due("walk(0, 1, 0)", x.walk(0, 1, 0), 0);
        Check.due("now(1)", x.now(1), 0);
        Check.due("now(2)", x.now(2), 0);
        Check.due("now(3)", x.now(3), 0);
        Check.due("now(4)", x.now(4), 0);
    }

    private static void numbered() {
        Check.of("all numbered from 0 each");
        LostKeys x = Check.town(TownTest.SHOP);
        Check.due("lock(0, 4)", x.lock(0, 4), 5);
        Check.due("lock(2, 4)", x.lock(2, 4), 63);
        Check.due("lock(3, 4)", x.lock(3, 4), -1);
        Check.due("key(0, 4)", x.key(0, 4), 4);
        Check.due("key(2, 4)", x.key(2, 4), 12);
        Check.due("man(0, 0)", x.man(0, 0), 0);
        Check.due("man(1, 0)", x.man(1, 0), 2);
        Check.due("lock(0, 0)", x.lock(0, 0), 0);
        Check.due("lock(2, 1)", x.lock(2, 1), 2);
    }

    private static void bookBytes() {
        Check.of("A BOOK is a text of at most 400 bytes");
        LostKeys x = Check.town(TownTest.SHOP);
        Check.dueBook(x, 0, Check.repeat(" ", 394) + "day 1;", -1, 0);
        Check.dueBook(x, 0, Check.repeat(" ", 395) + "day 1;", -2 - 400, 1);
        Check.dueBook(x, 0, Check.repeat(" ", 400), -1, 0);
        Check.dueBook(x, 0, Check.repeat(" ", 401), -2 - 400, 1);
        Check.dueBook(x, 0, Check.repeat(" ", 940), -2 - 400, 1);
    }

    private static void bookLines() {
        Check.of("A BOOK is a text of at most 400 bytes: { LINE ; }, 40 at most");
        LostKeys x = Check.town(TownTest.SHOP);
        Check.dueBook(x, 0, "", -1, 0);
        Check.due("told(1) of none", x.told(1), 0);
        Check.dueBook(x, 0, Check.repeat("day 1;", 39), -1, 0);
        Check.due("told(1) of 39", x.told(1), 39);
        Check.dueBook(x, 0, Check.repeat("day 1;", 40), -1, 0);
        Check.due("told(1) of 40", x.told(1), 40);
        Check.dueBook(x, 0, Check.repeat("day 1;", 41), -2 - 240, 4);
        Check.due("told(1) of 41", x.told(1), 40);
        Check.dueBook(x, 0, "day 1", -2 - 5, 1);
        // The 40th LINE is judged too.
        Check.dueBook(x, 0, Check.repeat("day 1;", 39) + "ann walks 3 2;", 39, 0);
        Check.due("told(0)", x.told(0), 31);
    }

    private static void bookCells() {
        Check.of("(X, Y 0 to 5");
        LostKeys x = Check.town("field 6 6;man m 0 5;man n 5 0;");
        Check.dueBook(x, 0, "m walks 1 5;n walks 5 1;m walks 0 5;n walks 5 0;", -1, 0);
        Check.dueBook(x, 0, "m walks 6 5;", -2 - 8, 2);
        Check.dueBook(x, 0, "m walks 5 6;", -2 - 10, 2);
        // Read whole, also where the field is smaller.
        LostKeys y = Check.town("field 2 2;man m 1 1;");
        Check.dueBook(y, 0, "m walks 5 5;", 0, 0);
        Check.due("told(0)", y.told(0), 39);
    }

    private static void bookDays() {
        Check.of("N 1 to 60");
        LostKeys x = Check.town(TownTest.SHOP);
        Check.dueBook(x, 0, "day 0;", -2 - 4, 2);
        Check.dueBook(x, 0, "day 1;", -1, 0);
        Check.due("told(2)", x.told(2), 1);
        Check.dueBook(x, 0, "day 60;", -1, 0);
        Check.due("told(2)", x.told(2), 60);
        Check.dueBook(x, 0, "day 61;", -2 - 4, 2);
        Check.dueBook(x, 0, "day;", -2 - 3, 1);
    }

    private static void sentenceBytes() {
        Check.of("A SENTENCE is a text of at most 200 bytes");
        LostKeys x = Check.town(TownTest.SHOP);
        Check.dueSentence(x, Check.repeat(" ", 195) + "lying", 1, 0);
        Check.dueSentence(x, Check.repeat(" ", 195) + "lying ", -1 - 200, 1);
        Check.dueSentence(x, Check.repeat(" ", 196) + "lying", -1 - 200, 1);
        Check.dueSentence(x, Check.repeat(" ", 200), -1 - 200, 1);
        Check.dueSentence(x, "lying" + Check.repeat("\n", 935), -1 - 200, 1);
    }

    private static void ones() {
        Check.of("20 ONES");
        LostKeys x = Check.town(TownTest.SHOP);
        Check.dueSentence(x, "number=9" + Check.repeat(" or ward=9", 18) + " or number=1", 20, 0);
        Check.due("said(0) by the 20th", x.said(0), 1);
        Check.due("said(-1)", x.said(-1), 1);
        String nine = "(not lying and(lying or lying)and(lying or lying))";
        Check.dueSentence(x, nine + "or" + nine + "or not lying", 20, 0);
        Check.dueSentence(x, nine + "or" + nine + "or lying or not lying", -1 - (2 * nine.length() + 18), 4);
        Check.dueSentence(x, Check.repeat("lying or ", 20) + "lying", -1 - 180, 4);
    }

    private static void within() {
        Check.of("8 within one another");
        LostKeys x = Check.town(TownTest.SHOP);
        Check.dueSentence(x, Check.repeat("not ", 7) + "number=1", 8, 0);
        Check.due("said(-1) of an odd number of nots", x.said(-1), 2);
        Check.dueSentence(x, Check.repeat("not ", 8) + "number=1", -1 - 32, 4);
        Check.due("said(-1) stays", x.said(-1), 2);
        Check.dueSentence(x, Check.repeat("(not ", 3) + "(number=1" + Check.repeat(")", 4), 8, 0);
        Check.dueSentence(x, Check.repeat("(not ", 4) + "number=1" + Check.repeat(")", 4), -1 - 20, 4);
    }

    private static void orAndNot() {
        Check.of("COND: ALL { 'or' ALL }. ALL: ONE { 'and' ONE }. ONE: 'not' ONE | ( COND )");
        LostKeys x = Check.town(TownTest.SHOP);
        dueSaid(x, "number=0 or number=1 and number=2", 1);
        dueSaid(x, "(number=0 or number=1)and number=2", 0);
        dueSaid(x, "number=2 and number=1 or number=0", 1);
        dueSaid(x, "not number=0 and number=0", 0);
        dueSaid(x, "not(number=0 and number=1)", 3);
        dueSaid(x, "not number=0 or number=0", 3);
        dueSaid(x, "not not number=0", 1);
        Check.dueSentence(x, "or lying", -1, 1);
        Check.dueSentence(x, "lying or", -1 - 8, 1);
        Check.dueSentence(x, "lying and or lying", -1 - 10, 1);
        Check.dueSentence(x, "not and lying", -1 - 4, 1);
        Check.dueSentence(x, "()", -1 - 1, 1);
        Check.dueSentence(x, ")", -1, 1);
    }

    private static void dueSaid(LostKeys x, String text, int howMany) {
        Check.tape(x, text);
        Check.due("sentence() of \"" + text + "\" is sound", x.sentence() > 0, true);
        Check.due("said(-1) of \"" + text + "\"", x.said(-1), howMany);
    }

    private static void ofAndHad() {
        Check.of("'of' MAN (it was his at first) | 'had' MAN (he has it)");
        LostKeys x = Check.town("man m 0 0;man n 0 0;key k m 0;key l n 0;key o n 0;");
        x.drop(0, 0);
        dueSaid(x, "of m", 1);
        dueSaid(x, "had m", 0);
        x.pick(1, 0);
        dueSaid(x, "of m", 1);
        dueSaid(x, "of n", 2);
        dueSaid(x, "had n", 3);
        dueSaid(x, "had n and of m", 1);
        dueSaid(x, "had m or of m", 1);
    }

    private static void fits() {
        Check.of("'fits' LOCK");
        LostKeys x = Check.town(ROOMS + "lock c a b 0 0 5;lock d a b 4 4 7;lock e a b 4 4 7 open;man m 0 0;key k m 7;key l m 5;key n m 7;key o m 4;");
        dueSaid(x, "fits c", 1);
        dueSaid(x, "fits d", 2);
        dueSaid(x, "fits e", 2);
        dueSaid(x, "fits d and fits c", 0);
        x.drop(0, 3);
        x.days(2);
        dueSaid(x, "fits c", 2);
        dueSaid(x, "fits c and number=3", 1);
    }

    private static void nearest() {
        Check.of("'near' LOCK (that is the NEAREST to where it is)");
        LostKeys x = Check.town("field 3 2;" + ROOMS + "lock c a b 2 0 0;lock d a b 0 0 0;lock e a b 0 0 0;man m 0 0;key k m 0;");
        dueSaid(x, "near d", 1);
        // As near as the first, but behind it.
        dueSaid(x, "near e", 0);
        x.walk(0, 1, 0);
        dueSaid(x, "near c", 1);
        dueSaid(x, "near d", 0);
        x.drop(0, 0);
        x.walk(0, 0, 0);
        dueSaid(x, "near c", 1);
    }

    private static void lain() {
        Check.of("DAYS that it has lain (0, if it does not lie)");
        LostKeys x = Check.town("man m 0 0;key k m 0;");
        x.days(5);
        dueSaid(x, "lain=0", 1);
        x.drop(0, 0);
        dueSaid(x, "lain=0", 1);
        x.days(5);
        dueSaid(x, "lain=5", 1);
        x.pick(0, 0);
        dueSaid(x, "lain=0", 1);
        dueSaid(x, "lain>0", 0);
    }

    private static void compared() {
        Check.of("SIGN: < = >");
        LostKeys x = Check.town(ROOMS + "lock c a b 0 0 63;man m 0 0;key k m 62;key l m 63;slow 1;");
        x.drop(0, 0);
        x.days(1);
        String[] words = {"ward", "lain", "turned", "number"};
        int[] values = {63, 1, 1, 0};
        for (int i = 0; i < 4; i++) {
            for (int n = Math.max(0, values[i] - 1); n <= values[i] + 1; n++) {
                String first = " and number=0";
                dueSaid(x, words[i] + "<" + n + first, values[i] < n ? 1 : 0);
                dueSaid(x, words[i] + "=" + n + first, values[i] == n ? 1 : 0);
                dueSaid(x, words[i] + ">" + n + first, values[i] > n ? 1 : 0);
            }
            dueSaid(x, words[i] + "<999", 2);
            dueSaid(x, words[i] + "<0", 0);
        }
        Check.dueSentence(x, "ward 63", -1 - 5, 1);
        Check.dueSentence(x, "ward<>63", -1 - 5, 1);
    }

    private static void saidOfKeys() {
        Check.of("It is said of KEYS.");
        LostKeys x = Check.town("man m 0 0;man n 0 0;");
        dueSaid(x, "not lying", 0);
        Check.due("said(0) without KEYS", x.said(0), -1);
        LostKeys y = Check.town("man m 0 0;" + many("key k", " m 0;", 8));
        dueSaid(y, "not lying", 8);
        Check.due("said(7)", y.said(7), 7);
        Check.due("said(8)", y.said(8), -1);
    }
}
