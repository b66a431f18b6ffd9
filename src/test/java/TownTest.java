/** Promises 4 (town) to 9 (now), 16 (nearest) and 17 (off). */
public final class TownTest {
    static final String SHOP = "field 4 3;room cellar;room shop;room bank;lock drain cellar shop 0 0 5;"
            + "lock vault shop bank 3 2 12 open;lock hatch cellar bank 3 0 63;man ann 0 0;man bob 2 2;"
            + "key brass ann 4;key iron ann 60;key tin bob 12;slow 2;";
    private static final String[] RESERVED = {"field", "room", "lock", "open", "man", "key", "slow", "drops", "picks", "tries",
        "walks", "day", "or", "and", "not", "lying", "of", "had", "fits", "near", "ward", "lain", "turned", "number"};

    public static void main(String[] args) {
        linesAndTokens();
        names();
        fieldAndSlow();
        locks();
        keys();
        tooMany();
        tooLong();
        stays();
        asked();
        nearest();
        Check.finish();
    }

    private static void linesAndTokens() {
        Check.dueTown("", 0, 0);
        Check.dueTown(" \n ", 0, 0);
        Check.dueTown(SHOP, 13, 0);
        Check.dueTown("\n room\na\n;room b ;", 2, 0);
        Check.dueTown("room", -1 - 4, 1);
        Check.dueTown("room a", -1 - 6, 1);
        Check.dueTown("room a  ", -1 - 8, 1);
        Check.dueTown(";", -1, 1);
        Check.dueTown("room a;;", -1 - 7, 1);
        Check.dueTown("Room a;", -1, 1);
        Check.dueTown("rooms a;", -1, 1);
        Check.dueTown("room\ta;", -1 - 4, 1);
        Check.dueTown("room 5;", -1 - 5, 1);
        Check.dueTown("room a.", -1 - 6, 1);
        Check.dueTown("room a b;", -1 - 7, 1);
        Check.dueTown("roam a;room ;", -1, 1);
        Check.dueTown("ann;", -1, 1);
        Check.dueTown("5;", -1, 1);
    }

    private static void names() {
        for (String word : RESERVED) {
            Check.dueTown("room " + word + ";", -1 - 5, 1);
        }
        Check.dueTown("room abcdefg;", 1, 0);
        Check.dueTown("room abcdefgh;", -1 - 5, 1);
        Check.dueTown("room a1;", -1 - 5, 1);
        Check.dueTown("room 1a;", -1 - 5, 1);
        Check.dueTown("room a;room a;", -1 - 12, 3);
        Check.dueTown("room a;room aa;room aaa;", 3, 0);
        Check.dueTown("room a;man a 0 0;", -1 - 11, 3);
        Check.dueTown("room z;room zz;man zzz 0 0;key zzzzzzz zzz 1;", 4, 0);
    }

    private static void fieldAndSlow() {
        Check.dueTown("field 2 6;", 1, 0);
        Check.dueTown("field 6 2;", 1, 0);
        Check.dueTown("field 002 02;", 1, 0);
        Check.dueTown("field 0002 2;", -1 - 6, 1);
        Check.dueTown("field 1 3;", -1 - 6, 2);
        Check.dueTown("field 7 3;", -1 - 6, 2);
        Check.dueTown("field 3 1;", -1 - 8, 2);
        Check.dueTown("field 3 7;", -1 - 8, 2);
        Check.dueTown("field 3;", -1 - 7, 1);
        Check.dueTown("field 3 3;field 3 3;", -1 - 10, 3);
        Check.dueTown("man a 0 0;field 3 3;", -1 - 10, 3);
        Check.dueTown("room a;room b;lock c a b 0 0 0;field 3 3;", -1 - 31, 3);
        Check.dueTown("room a;slow 3;field 3 3;", 3, 0);
        Check.dueTown("slow 0;", -1 - 5, 2);
        Check.dueTown("slow 10;", -1 - 5, 2);
        Check.dueTown("slow 1;", 1, 0);
        Check.dueTown("slow 9;slow 9;", -1 - 7, 3);
        Check.dueTown("field 3 3;man a 3 0;", -1 - 16, 2);
        Check.dueTown("field 3 3;man a 0 3;", -1 - 18, 2);
        Check.dueTown("man a 4 4;", 1, 0);
        Check.dueTown("man a 5 4;", -1 - 6, 2);
        Check.dueTown("man a 4 5;", -1 - 8, 2);
    }

    private static void locks() {
        String rooms = "room a;room b;";
        Check.dueTown(rooms + "lock c a b 4 4 63 open;", 3, 0);
        Check.dueTown(rooms + "lock c a b 0 0 0;lock d b a 0 0 0;", 4, 0);
        Check.dueTown(rooms + "lock c a a 0 0 0;", -1 - 23, 3);
        Check.dueTown(rooms + "lock a a b 0 0 0;", -1 - 19, 3);
        Check.dueTown(rooms + "lock c d b 0 0 0;", -1 - 21, 3);
        Check.dueTown(rooms + "lock c c b 0 0 0;", -1 - 21, 3);
        Check.dueTown(rooms + "lock c a d 0 0 0;", -1 - 23, 3);
        Check.dueTown(rooms + "man m 0 0;lock c a m 0 0 0;", -1 - 33, 3);
        Check.dueTown(rooms + "lock c a open 0 0 0;", -1 - 23, 1);
        Check.dueTown(rooms + "lock c a 0 0 0;", -1 - 23, 1);
        Check.dueTown(rooms + "lock c a b 5 0 0;", -1 - 25, 2);
        Check.dueTown(rooms + "lock c a b 0 5 0;", -1 - 27, 2);
        Check.dueTown(rooms + "lock c a b 0 0 64;", -1 - 29, 2);
        Check.dueTown(rooms + "lock c a b 0 0 0 shut;", -1 - 31, 1);
        Check.dueTown(rooms + "lock c a b 0 0 0 open open;", -1 - 36, 1);
    }

    private static void keys() {
        Check.dueTown("man m 0 0;key k m 63;", 2, 0);
        Check.dueTown("man m 0 0;key k m 64;", -1 - 18, 2);
        Check.dueTown("man m 0 0;key k n 1;", -1 - 16, 3);
        Check.dueTown("man m 0 0;key m m 1;", -1 - 14, 3);
        Check.dueTown("man m 0 0;key k k 1;", -1 - 16, 3);
        Check.dueTown("key k m 1;man m 0 0;", -1 - 6, 3);
        Check.dueTown("man m 0 0;key k m;", -1 - 17, 1);
    }

    private static String many(String before, String after, int n) {
        StringBuilder b = new StringBuilder();
        for (int i = 0; i < n; i++) {
            b.append(before).append((char) ('a' + i)).append(after);
        }
        return b.toString();
    }

    private static void tooMany() {
        Check.dueTown(many("room r", ";", 6), 6, 0);
        Check.dueTown(many("room r", ";", 7), -1 - 6 * 8, 4);
        Check.dueTown(many("room r", ";", 6) + "room ra;", -1 - 6 * 8, 4);
        String rooms = "room a;room b;";
        Check.dueTown(rooms + many("lock l", " a b 0 0 0;", 6), 8, 0);
        Check.dueTown(rooms + many("lock l", " a b 0 0 0;", 7), -1 - 14 - 6 * 18, 4);
        Check.dueTown(many("man m", " 0 0;", 5), 5, 0);
        Check.dueTown(many("man m", " 0 0;", 6), -1 - 5 * 11, 4);
        Check.dueTown("man m 0 0;" + many("key k", " m 0;", 8), 9, 0);
        Check.dueTown("man m 0 0;" + many("key k", " m 0;", 9), -1 - 10 - 8 * 11, 4);
    }

    private static void tooLong() {
        String blanks = Check.repeat(" ", 899);
        Check.dueTown("room a;" + blanks.substring(7) + "\n", 1, 0);
        Check.dueTown("room a;" + blanks.substring(7) + "\n ", -1 - 900, 1);
        Check.dueTown("room a" + blanks.substring(6) + ";", 1, 0);
        Check.dueTown("room a" + blanks.substring(6) + " ;", -1 - 900, 1);
        Check.dueTown("room a" + blanks.substring(5) + ";", -1 - 900, 1);
        Check.dueTown(blanks.substring(2) + "room a;", -1 - 900, 1);
        Check.dueTown(blanks.substring(2) + "roo a;", -1 - 897, 1);
        Check.dueTown("slow" + blanks.substring(4) + "10;", -1 - 899, 2);
        Check.dueTown("slow" + blanks.substring(4) + "1;", -1 - 900, 1);
        Check.dueTown("room" + blanks.substring(4) + "abcdefgh;", -1 - 899, 1);
        Check.dueTown("room a;room a;" + blanks + "      ", -1 - 12, 3);
    }

    private static void stays() {
        LostKeys x = Check.town(SHOP);
        x.drop(0, 0);
        x.days(3);
        Check.tape(x, "lying");
        x.sentence();
        Check.tape(x, "room a;room");
        Check.due("town() with a fault", x.town(), -1 - 11);
        Check.due("count(3) behind a fault", x.count(3), 3);
        Check.due("now(0) behind a fault", x.now(0), 3);
        Check.due("said(-1) behind a fault", x.said(-1), 1);
        Check.due("undo() behind a fault", x.undo(), 1);
        Check.tape(x, SHOP);
        Check.due("town() again", x.town(), 13);
        Check.due("now(0) of a new town", x.now(0), 0);
        Check.due("now(1) of a new town", x.now(1), 0);
        Check.due("now(3) of a new town", x.now(3), 0);
        Check.due("said(-1) of a new town", x.said(-1), -1);
        Check.due("undo() of a new town", x.undo(), -1);
        Check.due("town() of an empty tape", x.town(), 0);
        Check.due("count(1) of an empty town", x.count(1), 0);
        Check.due("count(4) of an empty town", x.count(4), 5);
    }

    private static void asked() {
        LostKeys x = Check.town(SHOP);
        int[][] locks = {{0, 1, 0, 0, 5, 0}, {1, 2, 3, 2, 12, 1}, {0, 2, 3, 0, 63, 0}};
        int[][] keys = {{0, 0, 0, 0, 4, 0, 0, 0}, {0, 0, 0, 0, 60, 0, 0, 0}, {1, 1, 2, 2, 12, 0, 0, 2}};
        int[][] men = {{0, 0, 3, 0}, {2, 2, 4, 0}};
        for (int l = 0; l < 3; l++) {
            for (int what = 0; what < 6; what++) {
                Check.due("lock(" + l + ", " + what + ")", x.lock(l, what), locks[l][what]);
            }
            for (int what = 0; what < 8; what++) {
                Check.due("key(" + l + ", " + what + ")", x.key(l, what), keys[l][what]);
            }
        }
        for (int m = 0; m < 2; m++) {
            for (int what = 0; what < 4; what++) {
                Check.due("man(" + m + ", " + what + ")", x.man(m, what), men[m][what]);
            }
        }
        Check.due("lock(3, 0)", x.lock(3, 0), -1);
        Check.due("lock(-1, 0)", x.lock(-1, 0), -1);
        Check.due("lock(0, -1)", x.lock(0, -1), -1);
        Check.due("lock(0, 6)", x.lock(0, 6), -1);
        for (int[] wrong : new int[][] {{3, 0}, {-1, 0}, {0, 8}, {0, -1}, {Integer.MAX_VALUE, 0}}) {
            Check.due("key() throws", Check.throwsKey(x, wrong[0], wrong[1]), true);
        }
        for (int[] wrong : new int[][] {{2, 0}, {-1, 0}, {0, 4}, {0, -1}, {Integer.MIN_VALUE, 0}}) {
            Check.due("man() throws", Check.throwsMan(x, wrong[0], wrong[1]), true);
        }
        x.drop(0, 1);
        x.drop(1, 2);
        Check.due("key(1, 1)", x.key(1, 1), -1);
        Check.due("man(0, 2)", x.man(0, 2), 1);
        Check.due("man(0, 3)", x.man(0, 3), 2);
        Check.due("man(1, 3)", x.man(1, 3), 4);
        Check.due("now(1)", x.now(1), 6);
        Check.due("now(2)", x.now(2), 2);
        Check.due("now(-1)", x.now(-1), -1);
        Check.due("now(5)", x.now(5), -1);
        LostKeys same = Check.town("room a;room b;lock c a b 0 0 7;lock d a b 1 0 7;lock e b a 2 0 6;lock f b a 2 0 7;man m 0 0;key k m 7;");
        Check.due("key(0, 7) of three that it fits", same.key(0, 7), 1 + 2 + 8);
    }

    private static void nearest() {
        LostKeys x = Check.town("field 5 2;room a;room b;lock c a b 4 0 7;lock d a b 0 0 7;lock e b a 0 0 6;man m 0 0;key k m 4;");
        int[] row = {1, 1, 0, 0, 0};
        for (int i = 0; i < 5; i++) {
            Check.due("nearest(" + i + ", 0)", x.nearest(i, 0), row[i]);
            Check.due("nearest(" + i + ", 1)", x.nearest(i, 1), row[i]);
        }
        Check.due("nearest(5, 0)", x.nearest(5, 0), -1);
        Check.due("nearest(0, 2)", x.nearest(0, 2), -1);
        Check.due("nearest(-1, 0)", x.nearest(-1, 0), -1);
        Check.due("nearest(0, -1)", x.nearest(0, -1), -1);
        Check.due("off(0, 0)", x.off(0, 0), 2);
        Check.due("off(0, 2)", x.off(0, 2), 1);
        Check.due("off(1, 0)", x.off(1, 0), -1);
        Check.due("off(0, 3)", x.off(0, 3), -1);
        Check.due("off(-1, 0)", x.off(-1, 0), -1);
        Check.due("off(0, -1)", x.off(0, -1), -1);
        Check.due("nearest(0, 0) without locks", Check.town("man m 0 0;").nearest(0, 0), -1);
    }
}
