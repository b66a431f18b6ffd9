import java.nio.charset.StandardCharsets;

/** What the tests share: texts put on the tape, and answers held against those that are due. */
final class Check {
    private static int wrong = 0;
    private static int checked = 0;

    private Check() {
    }

    static void due(String call, long got, long want) {
        checked++;
        if (got != want) {
            wrong++;
            System.out.println(call + " answered " + got + ", due is " + want);
        }
    }

    static void due(String call, boolean got, boolean want) {
        due(call, got ? 1 : 0, want ? 1 : 0);
    }

    static void finish() {
        System.out.println(checked + " answers, " + wrong + " not as due");
        if (wrong != 0) {
            System.exit(1);
        }
    }

    /** The tape is this text. */
    static void tape(LostKeys x, String text) {
        bytes(x, text.getBytes(StandardCharsets.ISO_8859_1));
    }

    static void bytes(LostKeys x, byte[] bytes) {
        x.end(0);
        for (int i = 0; i < bytes.length; i += 20) {
            x.feed(number(bytes, i), number(bytes, i + 4), number(bytes, i + 8), number(bytes, i + 12), number(bytes, i + 16));
        }
        if (!x.end(bytes.length)) {
            throw new IllegalStateException("the text is too long for the tape");
        }
    }

    private static int number(byte[] bytes, int at) {
        int n = 0;
        for (int i = at; i < at + 4; i++) {
            n = n << 8 | (i < bytes.length ? bytes[i] & 255 : 0);
        }
        return n;
    }

    static LostKeys town(String text) {
        LostKeys x = new LostKeys();
        tape(x, text);
        if (x.town() < 0) {
            throw new IllegalStateException("the test's own town has a fault: " + text);
        }
        return x;
    }

    /** A town() of this text on a new object. */
    static void dueTown(String text, int answer, int fault) {
        LostKeys x = new LostKeys();
        tape(x, text);
        due("town() of \"" + text + "\"", x.town(), answer);
        due("fault() of \"" + text + "\"", x.fault(), fault);
        due("bytes behind \"" + text + "\"", x.count(7), 0);
    }

    static void dueBook(LostKeys x, int lives, String text, int answer, int fault) {
        tape(x, text);
        due("book(" + lives + ") of \"" + text + "\"", x.book(lives), answer);
        due("fault() of \"" + text + "\"", x.fault(), fault);
        due("bytes behind \"" + text + "\"", x.count(7), 0);
    }

    static void dueSentence(LostKeys x, String text, int answer, int fault) {
        tape(x, text);
        due("sentence() of \"" + text + "\"", x.sentence(), answer);
        due("fault() of \"" + text + "\"", x.fault(), fault);
        due("bytes behind \"" + text + "\"", x.count(7), 0);
    }

    static String repeat(String part, int times) {
        return part.repeat(times);
    }
}
