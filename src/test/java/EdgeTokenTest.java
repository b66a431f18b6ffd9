/** Terms, TOKENS and FAULTS: each sentence that names a boundary, tested by itself. */
public final class EdgeTokenTest {
    private static final String ROOMS = "room a;room b;";

    public static void main(String[] args) {
        blanks();
        words();
        numbers();
        signs();
        runs();
        noTokens();
        firstAlong();
        leastOfOne();
        cannotCome();
        atTheEnd();
        moreBytes();
        readWhole();
        numbersNotAsTold();
        namesTwice();
        namesNotTold();
        namesOfAnotherSort();
        twoAlike();
        slowAgain();
        fieldAgain();
        fieldBehind();
        oneMoreOfASort();
        lineFortyOne();
        oneTwentyOne();
        ninthWithin();
        Check.finish();
    }

    /** A town() whose first LINE has a byte between its WORDS. */
    private static void dueBetween(int between, int answer) {
        Check.dueTown("room" + (char) between + "a;", answer, answer < 0 ? 1 : 0);
    }

    private static void blanks() {
        Check.of("TOKENS of all texts, with blanks (32, 10) between them or not");
        for (int b = 0; b < 256; b++) {
            boolean goesOn = b >= 'a' && b <= 'z' || b >= '0' && b <= '9';
            dueBetween(b, b == 32 || b == 10 ? 1 : goesOn ? -1 : -1 - 4);
        }
        Check.dueTown("room a;room b;", 2, 0);
        Check.dueTown(" room \n a\n\n;\nroom  b ; ", 2, 0);
        LostKeys x = Check.town(TownTest.SHOP);
        Check.dueBook(x, 0, "ann\n drops\nbrass\n;\n", -1, 0);
        Check.dueBook(x, 0, "ann drops brass;day 1;", -1, 0);
        Check.dueSentence(x, "not(ward<5or lying)and(lying)", -1 - 9, 1);
        Check.dueSentence(x, "not(ward<5 or lying)and(lying)", 6, 0);
        Check.dueSentence(x, "\nnot\n(\nward\n<\n5\n)\n", 3, 0);
    }

    private static void words() {
        Check.of("WORDS: small letters, 1 to 7");
        Check.dueTown("room a;", 1, 0);
        Check.dueTown("room z;", 1, 0);
        Check.dueTown("room azazaza;", 1, 0);
        Check.dueTown("room azazazaz;", -1 - 5, 1);
        Check.dueTown("room " + Check.repeat("a", 64) + ";", -1 - 5, 1);
        // The signs next to the small letters, and capital ones.
        Check.dueTown("room `;", -1 - 5, 1);
        Check.dueTown("room {;", -1 - 5, 1);
        Check.dueTown("room A;", -1 - 5, 1);
        Check.dueTown("room Z;", -1 - 5, 1);
        Check.dueTown("room a{;", -1 - 6, 1);
        Check.dueTown("room aA;", -1 - 6, 1);
        // Alike in their last seven letters alone.
        Check.dueTown("room bcdefgh;room abcdefgh;", -1 - 18, 1);
    }

    private static void numbers() {
        Check.of("NUMBERS: 1 to 3 digits");
        Check.dueTown("slow 9;", 1, 0);
        Check.dueTown("slow 09;", 1, 0);
        Check.dueTown("slow 009;", 1, 0);
        Check.dueTown("slow 0009;", -1 - 5, 1);
        Check.dueTown("slow 999;", -1 - 5, 2);
        Check.dueTown("slow 1000;", -1 - 5, 1);
        Check.dueTown("slow " + Check.repeat("0", 40) + "9;", -1 - 5, 1);
        // 4294967297 is 1 in 32 bits.
        Check.dueTown("slow 4294967297;", -1 - 5, 1);
        // The signs next to the digits.
        Check.dueTown("slow /;", -1 - 5, 1);
        Check.dueTown("slow :;", -1 - 5, 1);
        Check.dueTown("slow 1/;", -1 - 6, 1);
        Check.dueTown("slow -1;", -1 - 5, 1);
        Check.dueTown("slow +1;", -1 - 5, 1);
    }

    private static void signs() {
        Check.of("; < = > ( ) .");
        LostKeys x = Check.town(TownTest.SHOP);
        Check.dueSentence(x, "(ward<1)or(ward=1)or(ward>1)", 6, 0);
        Check.dueSentence(x, "ward<=1", -1 - 5, 1);
        Check.dueSentence(x, "ward==1", -1 - 5, 1);
        Check.dueSentence(x, "ward!1", -1 - 4, 1);
        Check.dueSentence(x, "ward?1", -1 - 4, 1);
        Check.dueSentence(x, "[lying]", -1, 1);
        Check.dueTown("room a:", -1 - 6, 1);
        Check.dueTown("room a,", -1 - 6, 1);
        Check.dueTown("room a.", -1 - 6, 1);
        Check.dueTown("room a;.", -1 - 7, 1);
        Check.dueTown("room (;", -1 - 5, 1);
    }

    private static void runs() {
        Check.of("A WORD, NUMBER goes on as long as small letters and digits do");
        Check.dueTown("room a1;", -1 - 5, 1);
        Check.dueTown("room 1a;", -1 - 5, 1);
        Check.dueTown("room a;rooma;", -1 - 7, 1);
        Check.dueTown("slow9;", -1, 1);
        Check.dueTown("slow 9s;", -1 - 5, 1);
        Check.dueTown("field 3 3man a 0 0;", -1 - 8, 1);
        Check.dueTown(ROOMS + "lock c a b 0 0 0open;", -1 - 29, 1);
        // Not a WORD of seven letters and a NUMBER behind it.
        Check.dueTown("man abcdefg0 0;", -1 - 4, 1);
        Check.dueBook(Check.town(TownTest.SHOP), 0, "day1;", -2, 1);
        Check.dueSentence(Check.town(TownTest.SHOP), "ward<1or lying", -1 - 5, 1);
        Check.dueSentence(Check.town(TownTest.SHOP), "notlying", -1, 1);
    }

    private static void noTokens() {
        Check.of("what is not as told is no TOKEN.");
        for (int b : new int[] {0, 9, 11, 12, 13, 31, 33, 64, 91, 95, 124, 126, 127, 128, 160, 176, 200, 225, 233, 250, 255}) {
            Check.dueTown("room a;" + (char) b, -1 - 7, 1);
            Check.dueTown("room " + (char) b + ";", -1 - 5, 1);
            Check.dueTown("room b" + (char) b + ";", -1 - 6, 1);
        }
    }

    private static void firstAlong() {
        Check.of("FAULTS, the first along the text");
        // Kinds 4, 3, 2, 1 stand in this order: the first one counts, not the least one.
        Check.dueTown(many("room r", ";", 7) + "room ra;slow 0;!", -1 - 48, 4);
        Check.dueTown("room a;room a;slow 0;!", -1 - 12, 3);
        Check.dueTown("slow 0;room a;room a;!", -1 - 5, 2);
        Check.dueTown("slow !;slow 0;room a;room a;", -1 - 5, 1);
        LostKeys x = Check.town(TownTest.SHOP);
        Check.dueBook(x, 0, "eve drops gold;day 0;!", -2, 3);
        Check.dueBook(x, 0, "day 0;eve drops gold;!", -2 - 4, 2);
        Check.dueSentence(x, "of eve or !", -1 - 3, 3);
        Check.dueSentence(x, Check.repeat("not ", 9) + "!", -1 - 32, 4);
    }

    private static void leastOfOne() {
        Check.of("of one TOKEN the least");
        LostKeys x = Check.town(TownTest.SHOP);
        String forty = Check.repeat("day 1;", 40);
        Check.dueBook(x, 0, forty + "!", -2 - 240, 1);
        Check.dueBook(x, 0, forty + "walks 1 0;", -2 - 240, 1);
        Check.dueBook(x, 0, forty + "eve walks 1 0;", -2 - 240, 3);
        Check.dueBook(x, 0, forty + "ann walks 1 0;", -2 - 240, 4);
        String twenty = Check.repeat("lying or ", 20);
        Check.dueSentence(x, twenty + "ann", -1 - 180, 1);
        Check.dueSentence(x, twenty + ")", -1 - 180, 1);
        Check.dueSentence(x, twenty + "of", -1 - 180, 4);
        Check.dueSentence(x, Check.repeat("(", 8) + "or", -1 - 8, 1);
        // A WORD that is no NAME was not told either.
        Check.dueTown("key k man 1;", -1 - 6, 1);
    }

    private static void cannotCome() {
        Check.of("1 no TOKEN, or one that can't come (at it");
        Check.dueTown("  ;", -1 - 2, 1);
        Check.dueTown("room a;\n open;", -1 - 9, 1);
        Check.dueTown("room a room b;", -1 - 7, 1);
        Check.dueTown("man m 0 0 0;", -1 - 10, 1);
        Check.dueTown("man m 0 x;", -1 - 8, 1);
        Check.dueTown("man 5 0 0;", -1 - 4, 1);
        LostKeys x = Check.town(TownTest.SHOP);
        Check.dueBook(x, 0, "ann room a;", -2 - 4, 1);
        Check.dueBook(x, 0, "ann drops brass brass;", -2 - 16, 1);
        Check.dueSentence(x, "lying ann", -1 - 6, 1);
        Check.dueSentence(x, "lying;", -1 - 5, 1);
        Check.dueSentence(x, "(lying))", -1 - 7, 1);
    }

    private static void atTheEnd() {
        Check.of("the end: how many bytes there are");
        Check.dueTown("r", -1, 1);
        Check.dueTown("room", -1 - 4, 1);
        Check.dueTown("room  \n", -1 - 7, 1);
        Check.dueTown("room a", -1 - 6, 1);
        Check.dueTown("room a \n ", -1 - 9, 1);
        Check.dueTown("room a" + Check.repeat(" ", 894), -1 - 900, 1);
        Check.dueTown("room a" + Check.repeat(" ", 893), -1 - 899, 1);
        LostKeys x = Check.town(TownTest.SHOP);
        Check.dueBook(x, 0, "day 1;day ", -2 - 10, 1);
        Check.dueBook(x, 0, "day 1;day 1", -2 - 11, 1);
        Check.dueBook(x, 0, "day 1" + Check.repeat(" ", 395), -2 - 400, 1);
        Check.dueSentence(x, "", -1, 1);
        Check.dueSentence(x, "  ", -1 - 2, 1);
        Check.dueSentence(x, "(lying ", -1 - 7, 1);
        Check.dueSentence(x, "lying and", -1 - 9, 1);
        Check.dueSentence(x, "(lying" + Check.repeat(" ", 194), -1 - 200, 1);
    }

    private static void moreBytes() {
        Check.of("the most bytes told, if there are more and no FAULT is ahead");
        Check.dueTown("room a;" + Check.repeat(" ", 893), 1, 0);
        Check.dueTown("room a;" + Check.repeat(" ", 894), -1 - 900, 1);
        Check.dueTown("room a;" + Check.repeat(" ", 933), -1 - 900, 1);
        Check.dueTown(Check.repeat(" ", 900) + "room a;", -1 - 900, 1);
        Check.dueTown("room a;!" + Check.repeat(" ", 932), -1 - 7, 1);
        Check.dueTown("slow 0;" + Check.repeat(" ", 933), -1 - 5, 2);
        Check.dueTown("room a" + Check.repeat(" ", 900) + ";", -1 - 900, 1);
        LostKeys x = Check.town(TownTest.SHOP);
        Check.dueBook(x, 0, "day 1;" + Check.repeat("\n", 394), -1, 0);
        Check.dueBook(x, 0, "day 1;" + Check.repeat("\n", 395), -2 - 400, 1);
        Check.dueBook(x, 0, "day 0;" + Check.repeat("\n", 395), -2 - 4, 2);
        Check.dueSentence(x, "lying" + Check.repeat(" ", 195), 1, 0);
        Check.dueSentence(x, "lying" + Check.repeat(" ", 196), -1 - 200, 1);
        Check.dueSentence(x, "of eve" + Check.repeat(" ", 196), -1 - 3, 3);
    }

    private static void readWhole() {
        Check.of("TOKENS that begin ahead of it are read whole");
        Check.dueTown("slow" + Check.repeat(" ", 895) + "1;", -1 - 900, 1);
        Check.dueTown("slow" + Check.repeat(" ", 895) + "10;", -1 - 899, 2);
        Check.dueTown("room" + Check.repeat(" ", 895) + "abcdefg;", -1 - 900, 1);
        Check.dueTown("room" + Check.repeat(" ", 895) + "abcdefgh;", -1 - 899, 1);
        Check.dueTown("room a;room" + Check.repeat(" ", 888) + "a ", -1 - 899, 3);
        Check.dueTown("room a;room" + Check.repeat(" ", 888) + "aa", -1 - 900, 1);
        Check.dueTown("room a;room" + Check.repeat(" ", 889) + "a;", -1 - 900, 1);
        LostKeys x = Check.town(TownTest.SHOP);
        Check.dueBook(x, 0, "day" + Check.repeat(" ", 396) + "60;", -2 - 400, 1);
        Check.dueBook(x, 0, "day" + Check.repeat(" ", 396) + "61;", -2 - 399, 2);
        Check.dueBook(x, 0, "day" + Check.repeat(" ", 397) + "61;", -2 - 400, 1);
        Check.dueSentence(x, Check.repeat(" ", 199) + "lying", -1 - 200, 1);
        Check.dueSentence(x, Check.repeat(" ", 199) + "lyin", -1 - 199, 1);
        Check.dueSentence(x, "of" + Check.repeat(" ", 197) + "ann", -1 - 200, 1);
        Check.dueSentence(x, "of" + Check.repeat(" ", 197) + "anne", -1 - 199, 3);
    }

    private static void numbersNotAsTold() {
        Check.of("2 a NUMBER that is not as told (at it)");
        Check.dueTown("field 1 7;", -1 - 6, 2);
        Check.dueTown("field 2 7;", -1 - 8, 2);
        Check.dueTown("field  2  001;", -1 - 10, 2);
        Check.dueTown("slow 010;", -1 - 5, 2);
        Check.dueTown("man m 005 0;", -1 - 6, 2);
        Check.dueTown("man m 0 0;key k m 064;", -1 - 18, 2);
        LostKeys x = Check.town(TownTest.SHOP);
        Check.dueBook(x, 0, "day 1;day 000;", -2 - 10, 2);
        Check.dueBook(x, 0, "ann walks 0 006;", -2 - 12, 2);
        Check.dueSentence(x, "ward<999", 1, 0);
    }

    private static void namesTwice() {
        Check.of("3 a NAME told twice");
        Check.dueTown("room a;room a;", -1 - 12, 3);
        Check.dueTown(ROOMS + "lock c a b 0 0 0;lock c a b 0 0 0;", -1 - 36, 3);
        Check.dueTown("man a 0 0;man a 0 0;", -1 - 14, 3);
        Check.dueTown("man a 0 0;key k a 0;key k a 0;", -1 - 24, 3);
        Check.dueTown("room a;man a 0 0;", -1 - 11, 3);
        Check.dueTown("man a 0 0;room a;", -1 - 15, 3);
        Check.dueTown(ROOMS + "lock b a b 0 0 0;", -1 - 19, 3);
        Check.dueTown(ROOMS + "lock c a b 0 0 0;room c;", -1 - 36, 3);
        Check.dueTown("man a 0 0;key a a 0;", -1 - 14, 3);
        Check.dueTown("man a 0 0;key k a 0;room k;", -1 - 25, 3);
        // The longest NAMES, alike in all but one letter.
        Check.dueTown("room abcdefg;room bbcdefg;room abcdefh;room abcdef;room bcdefg;", 5, 0);
        Check.dueTown("room abcdefg;room abcdefg;", -1 - 18, 3);
    }

    private static void namesNotTold() {
        Check.of("a NAME told twice, not told");
        Check.dueTown(ROOMS + "lock c d b 0 0 0;room d;", -1 - 21, 3);
        Check.dueTown(ROOMS + "lock c a d 0 0 0;room d;", -1 - 23, 3);
        Check.dueTown("key k m 0;man m 0 0;", -1 - 6, 3);
        LostKeys x = Check.town(TownTest.SHOP);
        Check.dueBook(x, 0, "eve drops brass;", -2, 3);
        Check.dueBook(x, 0, "ann drops gold;", -2 - 10, 3);
        Check.dueBook(x, 0, "ann picks gold;", -2 - 10, 3);
        Check.dueBook(x, 0, "ann tries gold drain;", -2 - 10, 3);
        Check.dueBook(x, 0, "ann tries brass door;", -2 - 16, 3);
        Check.dueSentence(x, "of eve", -1 - 3, 3);
        Check.dueSentence(x, "had eve", -1 - 4, 3);
        Check.dueSentence(x, "fits door", -1 - 5, 3);
        Check.dueSentence(x, "near door", -1 - 5, 3);
        // Told in the TOWN that was, not in the one that is.
        Check.tape(x, "man eve 0 0;");
        x.town();
        Check.dueBook(x, 0, "ann walks 0 1;", -2, 3);
        Check.dueBook(x, 0, "eve walks 0 1;", -1, 0);
    }

    private static void namesOfAnotherSort() {
        Check.of("a NAME told twice, not told, or of another sort");
        String town = ROOMS + "man m 0 0;lock c a b 0 0 0;key k m 0;";
        for (String other : new String[] {"m", "c", "k"}) {
            Check.dueTown(town + "lock d " + other + " b 0 0 0;", -1 - 58, 3);
            Check.dueTown(town + "lock d a " + other + " 0 0 0;", -1 - 60, 3);
        }
        for (String other : new String[] {"a", "c", "k"}) {
            Check.dueTown(town + "key l " + other + " 0;", -1 - 57, 3);
            Check.dueBook(Check.town(town), 0, other + " drops k;", -2, 3);
            Check.dueSentence(Check.town(town), "of " + other, -1 - 3, 3);
            Check.dueSentence(Check.town(town), "had " + other, -1 - 4, 3);
        }
        for (String other : new String[] {"a", "c", "m"}) {
            Check.dueBook(Check.town(town), 0, "m drops " + other + ";", -2 - 8, 3);
            Check.dueBook(Check.town(town), 0, "m picks " + other + ";", -2 - 8, 3);
            Check.dueBook(Check.town(town), 0, "m tries " + other + " c;", -2 - 8, 3);
        }
        for (String other : new String[] {"a", "m", "k"}) {
            Check.dueBook(Check.town(town), 0, "m tries k " + other + ";", -2 - 10, 3);
            Check.dueSentence(Check.town(town), "fits " + other, -1 - 5, 3);
            Check.dueSentence(Check.town(town), "near " + other, -1 - 5, 3);
        }
    }

    private static void twoAlike() {
        Check.of("two alike that must be unlike (at the second)");
        Check.dueTown(ROOMS + "lock c a a 0 0 0;", -1 - 23, 3);
        Check.dueTown(ROOMS + "lock c b b 0 0 0;", -1 - 23, 3);
        Check.dueTown(ROOMS + "lock c b a 0 0 0;", 3, 0);
    }

    private static void slowAgain() {
        Check.of("'slow', 'field' told again");
        Check.dueTown("slow 2;slow 2;", -1 - 7, 3);
        Check.dueTown("slow 3;room a; slow 0;", -1 - 15, 3);
    }

    private static void fieldAgain() {
        Check.of("'field' told again");
        Check.dueTown("field 5 5;field 5 5;", -1 - 10, 3);
        Check.dueTown("field 2 2;room a; field 9 9;", -1 - 18, 3);
        // A TOWN told once more begins anew.
        LostKeys x = Check.town("field 2 2;slow 3;");
        for (int i = 0; i < 3; i++) {
            Check.tape(x, "field 3 2;slow 4;");
            Check.due("town() behind another one", x.town(), 2);
        }
    }

    private static void fieldBehind() {
        Check.of("'field' behind a lock or a man (at it)");
        Check.dueTown("man m 0 0;field 5 5;", -1 - 10, 3);
        Check.dueTown(ROOMS + "lock c a b 0 0 0; field 5 5;", -1 - 32, 3);
        Check.dueTown(ROOMS + "slow 1;field 5 5;", 4, 0);
    }

    private static String many(String before, String after, int n) {
        StringBuilder b = new StringBuilder();
        for (int i = 0; i < n; i++) {
            b.append(before).append((char) ('a' + i)).append(after);
        }
        return b.toString();
    }

    private static void oneMoreOfASort() {
        Check.of("4 one more than there may be of a sort");
        Check.dueTown(many("room r", ";", 7), -1 - 48, 4);
        Check.dueTown(many("room r", ";", 6) + "\nroom 5", -1 - 49, 4);
        Check.dueTown(ROOMS + many("lock l", " a b 0 0 0;", 7), -1 - 122, 4);
        Check.dueTown(ROOMS + many("lock l", " a b 0 0 0;", 6) + " lock", -1 - 123, 4);
        Check.dueTown(many("man m", " 0 0;", 6), -1 - 55, 4);
        Check.dueTown("man m 0 0;" + many("key k", " m 0;", 9), -1 - 98, 4);
        Check.dueTown(many("room r", ";", 6) + many("lock l", " ra rb 0 0 0;", 6) + many("man m", " 0 0;", 5)
                + many("key k", " ma 0;", 8) + "slow 2;", 26, 0);
    }

    private static void lineFortyOne() {
        Check.of("a 41st LINE of a BOOK (at the LINE's first WORD)");
        LostKeys x = Check.town(TownTest.SHOP);
        Check.dueBook(x, 0, Check.repeat("day 1;", 40) + "\n ", -1, 0);
        Check.dueBook(x, 0, Check.repeat("day 1;", 41), -2 - 240, 4);
        Check.dueBook(x, 0, Check.repeat("day 1;", 40) + "\n day", -2 - 242, 4);
        Check.dueBook(x, 0, Check.repeat("day 1;", 40) + " ann", -2 - 241, 4);
        Check.dueBook(x, 0, Check.repeat("day 1;", 40) + ";", -2 - 240, 1);
    }

    private static void oneTwentyOne() {
        Check.of("a 21st ONE");
        LostKeys x = Check.town(TownTest.SHOP);
        Check.dueSentence(x, Check.repeat("lying or ", 19) + "lying", 20, 0);
        Check.dueSentence(x, Check.repeat("lying or ", 20) + "lying", -1 - 180, 4);
        Check.dueSentence(x, Check.repeat("lying and ", 19) + "not lying", -1 - 194, 4);
        Check.dueSentence(x, Check.repeat("lying or ", 19) + "(lying)", -1 - 172, 4);
        Check.dueSentence(x, Check.repeat("lying or ", 19) + "(ward<", -1 - 172, 4);
    }

    private static void ninthWithin() {
        Check.of("a ninth within (at its first TOKEN)");
        LostKeys x = Check.town(TownTest.SHOP);
        Check.dueSentence(x, Check.repeat("not ", 7) + "lying", 8, 0);
        Check.dueSentence(x, Check.repeat("not ", 8) + "lying", -1 - 32, 4);
        Check.dueSentence(x, Check.repeat("not ", 8) + " not", -1 - 33, 4);
        Check.dueSentence(x, Check.repeat("(", 7) + "lying" + Check.repeat(")", 7), 8, 0);
        Check.dueSentence(x, Check.repeat("(", 8) + "ward", -1 - 8, 4);
        Check.dueSentence(x, Check.repeat("not(", 4) + "(lying))))", -1 - 16, 4);
        Check.dueSentence(x, "not " + Check.repeat("not(", 3) + "lying)))", 8, 0);
        // Those beside one another are not within.
        Check.dueSentence(x, "((((lying))))and((((lying))))or((((lying))))and not not not lying", 19, 0);
        Check.dueSentence(x, Check.repeat("(", 6) + "not lying" + Check.repeat(")", 6) + "and not lying", 10, 0);
    }
}
