/** Promises 1 (a new object), 2 (feed), 3 (end) and 40 (count). */
public final class TapeTest {
    public static void main(String[] args) {
        newObject();
        feedAndEnd();
        orderOfBytes();
        counts();
        Check.finish();
    }

    private static void newObject() {
        LostKeys x = new LostKeys();
        int[] want = {0, 0, 0, 0, 5, 5, 2, 0};
        for (int what = 0; what < 8; what++) {
            Check.due("count(" + what + ") of a new object", x.count(what), want[what]);
        }
        for (int what = 0; what < 5; what++) {
            Check.due("now(" + what + ") of a new object", x.now(what), 0);
        }
        Check.due("fault() of a new object", x.fault(), 0);
        Check.due("byteAt(0) of a new object", x.byteAt(0), -1);
        Check.due("undo() of a new object", x.undo(), -1);
        Check.due("match() without locks", x.match(), 0);
        Check.due("said(-1) of a new object", x.said(-1), -1);
    }

    private static void feedAndEnd() {
        LostKeys x = new LostKeys();
        Check.due("end(0)", x.end(0), true);
        Check.due("end(1)", x.end(1), false);
        for (int i = 1; i <= 47; i++) {
            Check.due("feed() the " + i + "th time", x.feed(0, 0, 0, 0, 0), 20 * i);
        }
        Check.due("feed() of 960 bytes", x.feed(0, 0, 0, 0, 0), -1);
        Check.due("count(7)", x.count(7), 940);
        Check.due("end(941)", x.end(941), false);
        Check.due("end(-1)", x.end(-1), false);
        Check.due("end(940)", x.end(940), true);
        Check.due("end(921)", x.end(921), true);
        Check.due("feed() of 941 bytes", x.feed(0, 0, 0, 0, 0), -1);
        Check.due("count(7)", x.count(7), 921);
        Check.due("end(920)", x.end(920), true);
        Check.due("feed() of 940 bytes", x.feed(0, 0, 0, 0, 0), 940);
        Check.due("end(0)", x.end(0), true);
        Check.due("count(7)", x.count(7), 0);
    }

    private static void orderOfBytes() {
        LostKeys x = new LostKeys();
        // "room", " a;r", "oom ", "b; ;", "    "
        x.feed(0x726f6f6d, 0x20613b72, 0x6f6f6d20, 0x623b203b, 0x20202020);
        Check.due("town() of \"room a;room b; ;\"", x.town(), -1 - 15);
        x.feed(0x726f6f6d, 0x20613b72, 0x6f6f6d20, 0x623b2020, 0x20202020);
        Check.due("town() of \"room a;room b;\"", x.town(), 2);
        x.feed(0x726f6f6d, 0x20613bff, 0, 0, 0);
        Check.due("town() with byte 255", x.town(), -1 - 7);
    }

    private static void counts() {
        LostKeys x = Check.town("field 3 6;room a;room b;lock c a b 0 0 1;man m 2 5;man n 0 0;man o 0 0;key k m 1;key l m 2;key p n 3;key q o 4;slow 7;");
        int[] want = {2, 1, 3, 4, 3, 6, 7, 0};
        for (int what = 0; what < 8; what++) {
            Check.due("count(" + what + ")", x.count(what), want[what]);
        }
        Check.due("count(-1)", x.count(-1), -1);
        Check.due("count(8)", x.count(8), -1);
        Check.due("count(least)", x.count(Integer.MIN_VALUE), -1);
    }
}
