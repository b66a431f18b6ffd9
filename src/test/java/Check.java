import java.nio.charset.StandardCharsets;
import java.util.Map;
import java.util.NoSuchElementException;
import java.util.TreeMap;

/** What the tests share: texts put on the tape, and answers held against those that are due. */
final class Check {
    private static int wrong = 0;
    private static int checked = 0;
    /** The sentence of the document that the answers below are due by, and how many there were for each. */
    private static String sentence = "";
    private static final Map<String, Integer> OF_SENTENCE = new TreeMap<>();

    private Check() {
    }

    /** What follows tests this sentence of the document, by itself. */
    static void of(String words) {
        sentence = words;
        if (OF_SENTENCE.put(words, 0) != null) {
            wrong++;
            System.out.println("tested in two places: " + words);
        }
    }

    static void due(String call, long got, long want) {
        checked++;
        OF_SENTENCE.computeIfPresent(sentence, (words, n) -> n + 1);
        if (got != want) {
            wrong++;
            System.out.println((sentence.isEmpty() ? "" : "[" + sentence + "] ") + call + " answered " + got + ", due is " + want);
        }
    }

    static void due(String call, boolean got, boolean want) {
        due(call, got ? 1 : 0, want ? 1 : 0);
    }

    static void finish() {
        OF_SENTENCE.forEach((words, n) -> {
            if (n == 0) {
                wrong++;
                System.out.println("no answer tests: " + words);
            }
        });
        System.out.println(checked + " answers" + (OF_SENTENCE.isEmpty() ? "" : " by " + OF_SENTENCE.size() + " sentences") + ", "
                + wrong + " not as due");
        if (wrong != 0) {
            System.exit(1);
        }
    }

    /** The tape is this text. */
    static void tape(LostKeys x, String text) {
        bytes(x, text.getBytes(StandardCharsets.ISO_8859_1));
    }

    static void bytes(LostKeys x, byte[] bytes) {
        x.end(0);
        for (int i = 0; i < bytes.length; i += 20) {
            x.feed(number(bytes, i), number(bytes, i + 4), number(bytes, i + 8), number(bytes, i + 12), number(bytes, i + 16));
        }
        if (!x.end(bytes.length)) {
            throw new IllegalStateException("the text is too long for the tape");
        }
    }

    private static int number(byte[] bytes, int at) {
        int n = 0;
        for (int i = at; i < at + 4; i++) {
            n = n << 8 | (i < bytes.length ? bytes[i] & 255 : 0);
        }
        return n;
    }

    static LostKeys town(String text) {
        LostKeys x = new LostKeys();
        tape(x, text);
        if (x.town() < 0) {
            throw new IllegalStateException("the test's own town has a fault: " + text);
        }
        return x;
    }

    /** A town() of this text on a new object. */
    static void dueTown(String text, int answer, int fault) {
        LostKeys x = new LostKeys();
        tape(x, text);
        due("town() of \"" + text + "\"", x.town(), answer);
        due("fault() of \"" + text + "\"", x.fault(), fault);
        due("bytes behind \"" + text + "\"", x.count(7), 0);
    }

    static void dueBook(LostKeys x, int lives, String text, int answer, int fault) {
        tape(x, text);
        due("book(" + lives + ") of \"" + text + "\"", x.book(lives), answer);
        due("fault() of \"" + text + "\"", x.fault(), fault);
        due("bytes behind \"" + text + "\"", x.count(7), 0);
    }

    static void dueSentence(LostKeys x, String text, int answer, int fault) {
        tape(x, text);
        due("sentence() of \"" + text + "\"", x.sentence(), answer);
        due("fault() of \"" + text + "\"", x.fault(), fault);
        due("bytes behind \"" + text + "\"", x.count(7), 0);
    }

    static boolean throwsKey(LostKeys x, int k, int what) {
        try {
            x.key(k, what);
            return false;
        } catch (NoSuchElementException e) {
            return true;
        }
    }

    static boolean throwsMan(LostKeys x, int m, int what) {
        try {
            x.man(m, what);
            return false;
        } catch (NoSuchElementException e) {
            return true;
        }
    }

    /** Days go by till it is that one. */
    static void late(LostKeys x, int day) {
        while (x.now(0) < day) {
            x.days(Math.min(60, day - x.now(0)));
        }
    }

    /**
     * What can be seen without changing anything, so that a refused call can be seen to change nothing: all that is so, and the first of
     * what other calls told last. An object is good for 512 calls, and this takes some forty in a small town.
     */
    static String seen(LostKeys x) {
        StringBuilder all = new StringBuilder();
        for (int what = 0; what < 5; what++) {
            all.append(x.now(what)).append(' ');
        }
        for (int what : new int[] {0, 1, 2, 3, 7}) {
            all.append(x.count(what)).append(' ');
        }
        for (int k = 0; k < x.count(3); k++) {
            for (int what = 1; what < 7; what++) {
                all.append(x.key(k, what)).append(' ');
            }
        }
        for (int m = 0; m < x.count(2); m++) {
            all.append(x.man(m, 0)).append(' ').append(x.man(m, 1)).append(' ');
        }
        return all.append(x.fault()).append(' ').append(x.said(-1)).append(' ').append(x.told(2)).append(' ').append(x.lost(0)).append(' ')
                .append(x.matched(0)).append(' ').append(x.wayAt(0)).append(' ').append(x.tells()).append(' ').append(x.twin(1)).append(' ')
                .append(x.byteAt(0)).toString();
    }

    static String repeat(String part, int times) {
        return part.repeat(times);
    }
}
