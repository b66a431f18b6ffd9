import java.lang.reflect.InvocationTargetException;
import java.lang.reflect.Method;
import java.nio.charset.StandardCharsets;
import java.util.ArrayList;
import java.util.Arrays;
import java.util.List;
import java.util.Map;
import java.util.Random;
import java.util.TreeMap;

/**
 * Runs of calls by draws, the same on LostKeys and on Plain: every answer must be alike, and what is thrown too.
 * An argument says how many runs; the seeds are 0, 1, ..
 */
public final class FuzzTest {
    private static final String[] ASKED = {"lock", "key", "man", "now", "drop", "pick", "tries", "walk", "days", "undo",
        "nearest", "off", "fitting", "losing", "lost", "match", "matched", "opens", "way", "wayAt", "found", "tells", "twins",
        "twin", "tag", "byteAt", "drawn", "odds", "told", "said", "image", "restore", "count", "fault", "end"};
    private static final String[] JUNK = {"room", "lock", "man", "key", "field", "slow", "open", "drops", "picks", "tries",
        "walks", "day", "or", "and", "not", "lying", "of", "had", "fits", "near", "ward", "lain", "turned", "number",
        ";", "<", "=", ">", "(", ")", ".", "0", "1", "5", "6", "9", "60", "61", "63", "64", "999", "1000", "007",
        "zzz", "abcdefg", "abcdefgh", "ab1", "1ab", "A", "\t", "\u00e9", "_"};

    private final Random random;
    private final LostKeys x = new LostKeys();
    private final Plain plain = new Plain();
    private final Map<String, Integer> seen;
    private final List<String> calls = new ArrayList<>();
    /** How many calls on the object there were, those that put a text on the tape too. */
    private int made;
    /** The NAMES of the TOWN, so that most BOOKS and SENTENCES are of what there is. */
    private List<String> rooms = new ArrayList<>();
    private List<String> locks = new ArrayList<>();
    private List<String> men = new ArrayList<>();
    private List<String> keys = new ArrayList<>();
    private final List<List<List<String>>> namesKept = new ArrayList<>(List.of(names(), names()));
    private int wide;
    private int high;

    private FuzzTest(long seed, Map<String, Integer> seen) {
        random = new Random(seed);
        this.seen = seen;
    }

    public static void main(String[] args) throws ReflectiveOperationException {
        int runs = args.length > 0 ? Integer.parseInt(args[0]) : 4000;
        Map<String, Integer> seen = new TreeMap<>();
        for (int seed = 0; seed < runs; seed++) {
            FuzzTest run = new FuzzTest(seed, seen);
            if (!run.isAlike()) {
                System.out.println("seed " + seed + ":");
                run.calls.forEach(System.out::println);
                System.exit(1);
            }
        }
        System.out.println(runs + " runs alike: " + seen);
        for (String must : new String[] {"town 0", "town 1", "town 2", "town 3", "town 4", "book 0", "book 1", "book 2", "book 3",
            "book 4", "sentence 0", "sentence 1", "sentence 3", "sentence 4", "match answers", "way answers",
            "losing answers", "fitting answers", "found answers", "odds answers", "drawn answers", "undo answers", "said answers",
            "told 0", "told 1", "told 11", "told 21", "told 22", "told 23", "told 31", "told 39", "told 41"}) {
            if (!seen.containsKey(must)) {
                System.out.println("never came: " + must);
                System.exit(1);
            }
        }
    }

    private boolean isAlike() throws ReflectiveOperationException {
        // An object is good for 512 calls; one step makes at most some fifty.
        while (made < 450) {
            if (!step()) {
                return false;
            }
        }
        if (made > 512) {
            calls.add(made + " calls are too many");
        }
        return made <= 512;
    }

    private boolean step() throws ReflectiveOperationException {
        switch (calls.isEmpty() && draw(10) > 0 ? 0 : draw(60)) {
            case 0:
                List<List<String>> old = names();
                boolean alike = text(townText(), 940) && asked("town") && both("fault");
                if (plain.fault() != 0) {
                    rename(old);
                }
                return alike;
            case 1:
            case 2:
            case 3:
                return text(bookText(), 440) && both("book", draw(12) == 0 ? number() : draw(2)) && both("fault")
                        && both("told", 0) && both("told", 1) && both("told", 2) && both("told", 3) && count("told " + plain.told(0));
            case 4:
            case 5:
            case 6:
                return text(sentenceText(), 240) && asked("sentence") && both("fault") && both("said", -1) && both("said", draw(4));
            case 7:
            case 8:
                return found() && both("tells");
            case 9:
                return whole();
            default:
                return asked(ASKED[draw(ASKED.length)]);
        }
    }

    private List<List<String>> names() {
        return List.of(rooms, locks, men, keys);
    }

    private void rename(List<List<String>> names) {
        rooms = names.get(0);
        locks = names.get(1);
        men = names.get(2);
        keys = names.get(3);
    }

    /** Everything that can be seen of what is so. */
    private boolean whole() throws ReflectiveOperationException {
        for (int what = 0; what < 8; what++) {
            if (!both("key", draw(8), what) || !both("lock", draw(6), what) || !both("count", what)) {
                return false;
            }
        }
        for (int what = 0; what < 5; what++) {
            if (!both("man", draw(5), what) || !both("now", what)) {
                return false;
            }
        }
        return true;
    }

    private boolean count(String what) {
        seen.merge(what, 1, Integer::sum);
        return true;
    }

    private boolean found() throws ReflectiveOperationException {
        int days = draw(3) == 0 ? draw(256) : draw(20);
        int ward = draw(20) == 0 ? draw(256) : draw(64);
        int cellX = draw(20) == 0 ? 7 : draw(6);
        int cellY = draw(5);
        if (draw(2) == 0 && plain.count(3) > 0 && plain.count(1) > 0) {
            // Such a WARD as a KEY is likely to have then.
            ward = draw(2) == 0 ? plain.key(draw(plain.count(3)), 4) : plain.lock(draw(plain.count(1)), 4);
            days = draw(2) == 0 ? 255 : days;
        }
        return both("end", 0) && both("feed", cellX << 24 | cellY << 16 | ward << 8 | days, 0, 0, 0, 0)
                && both("end", draw(20) == 0 ? draw(8) : 4) && asked("found");
    }

    private boolean asked(String name) throws ReflectiveOperationException {
        int[] args = new int[method(LostKeys.class, name).getParameterCount()];
        for (int i = 0; i < args.length; i++) {
            args[i] = number();
        }
        if (name.equals("walk") && plain.count(2) > 0 && draw(5) > 0) {
            int m = draw(plain.count(2));
            int way = draw(4);
            args = new int[] {m, plain.man(m, 0) + (way == 0 ? 1 : way == 1 ? -1 : 0), plain.man(m, 1) + (way == 2 ? 1 : way == 3 ? -1 : 0)};
        }
        if ((name.equals("drop") || name.equals("tries")) && plain.count(3) > 0 && draw(4) > 0) {
            int k = draw(plain.count(3));
            args[0] = plain.key(k, 1);
            args[1] = k;
        }
        if ((name.equals("days") || name.equals("drawn")) && draw(2) == 0) {
            args[0] = draw(62);
        }
        if (name.equals("odds") || name.equals("drawn")) {
            args[args.length - 1] = random.nextInt();
        }
        if (name.equals("end") && draw(10) > 0) {
            return true;
        }
        boolean alike = both(name, args);
        if (name.equals("image") && (args[0] == 0 || args[0] == 1)) {
            namesKept.set(args[0], names());
        }
        if (name.equals("restore") && plain.restore(args[0])) {
            rename(namesKept.get(args[0]));
        }
        return alike;
    }

    private int number() {
        int d = draw(40);
        return d == 0 ? random.nextInt() : d == 1 ? Integer.MIN_VALUE : d == 2 ? Integer.MAX_VALUE : d == 3 ? draw(64) : d < 7 ? -1 : draw(8) * draw(2) + draw(3);
    }

    private static Method method(Class<?> type, String name) {
        return Arrays.stream(type.getDeclaredMethods()).filter(m -> m.getName().equals(name)).findFirst().orElseThrow();
    }

    private static Object answer(Object object, String name, Object[] args) throws ReflectiveOperationException {
        Method m = method(object.getClass(), name);
        m.setAccessible(true);
        try {
            return m.invoke(object, args);
        } catch (InvocationTargetException e) {
            return "throws." + e.getCause().getClass().getSimpleName();
        }
    }

    private boolean both(String name, int... args) throws ReflectiveOperationException {
        Object[] boxed = Arrays.stream(args).boxed().toArray();
        made++;
        Object got = answer(x, name, boxed);
        Object want = answer(plain, name, boxed);
        calls.add(name + Arrays.toString(args) + " answered " + got + ", due is " + want);
        count(name);
        if (List.of("town", "book", "sentence").contains(name)) {
            count(name + " " + plain.fault());
        }
        if (got instanceof Integer && (int) got >= 0) {
            count(name + " answers");
        }
        return got.equals(want);
    }

    private int draw(int n) {
        return random.nextInt(n);
    }

    private static <T> T any(Random random, List<T> list, T none) {
        return list.isEmpty() ? none : list.get(random.nextInt(list.size()));
    }

    private boolean text(String text, int longest) throws ReflectiveOperationException {
        String whole = draw(4) == 0 ? changed(text) : text;
        if (draw(15) == 0) {
            int to = longest - draw(45);
            StringBuilder padded = new StringBuilder(whole);
            int at = draw(2) == 0 ? whole.length() : draw(whole.length() + 1);
            while (padded.length() < to) {
                padded.insert(at, draw(5) == 0 ? '\n' : ' ');
            }
            whole = padded.toString();
        }
        if (whole.length() > 940) {
            whole = whole.substring(0, 940);
        }
        byte[] bytes = whole.getBytes(StandardCharsets.ISO_8859_1);
        calls.add("the tape: \"" + whole + "\"");
        Check.bytes(x, bytes);
        made += 2 + (bytes.length + 19) / 20;
        plain.end(0);
        for (int i = 0; i < bytes.length; i += 20) {
            int[] n = new int[5];
            for (int j = 0; j < 20; j++) {
                n[j / 4] = n[j / 4] << 8 | (i + j < bytes.length ? bytes[i + j] & 255 : 0);
            }
            plain.feed(n[0], n[1], n[2], n[3], n[4]);
        }
        return plain.end(bytes.length) && both("count", 7);
    }

    private String changed(String text) {
        StringBuilder b = new StringBuilder(text);
        int at = draw(text.length() + 1);
        switch (draw(4)) {
            case 0:
                b.insert(at, " " + JUNK[draw(JUNK.length)] + " ");
                break;
            case 1:
                b.insert(at, JUNK[draw(JUNK.length)]);
                break;
            case 2:
                b.delete(at, Math.min(b.length(), at + 1 + draw(3)));
                break;
            default:
                String[] parts = text.split(" ");
                String[] names = {any(random, rooms, "a"), any(random, locks, "a"), any(random, men, "a"), any(random, keys, "a")};
                parts[draw(parts.length)] = draw(2) == 0 ? JUNK[draw(JUNK.length)] : names[draw(4)];
                return String.join(" ", parts);
        }
        return b.toString();
    }

    private String name() {
        for (;;) {
            int letters = draw(8) == 0 ? 7 : draw(60) == 0 ? 1 : 3 + draw(3);
            StringBuilder b = new StringBuilder();
            for (int i = 0; i < letters; i++) {
                b.append((char) ('a' + draw(26)));
            }
            String name = b.toString();
            if (!List.of(JUNK).contains(name)) {
                return name;
            }
        }
    }

    private int ward() {
        return draw(2) == 0 ? draw(64) : draw(4) * 16 + draw(3);
    }

    private String townText() {
        rename(List.of(new ArrayList<>(), new ArrayList<>(), new ArrayList<>(), new ArrayList<>()));
        wide = 5;
        high = 5;
        StringBuilder b = new StringBuilder();
        boolean slowTold = draw(3) == 0;
        if (slowTold) {
            b.append("slow ").append(1 + draw(9)).append(" ; ");
        }
        if (draw(2) == 0) {
            wide = 2 + draw(5);
            high = 2 + draw(5);
            b.append("field ").append(wide).append(" ").append(high).append(" ; ");
        }
        int full = draw(3) == 0 ? 1 : 0;
        int ofRooms = full == 1 ? 6 : draw(7);
        for (int i = 0; i < ofRooms; i++) {
            rooms.add(name());
            b.append("room ").append(rooms.get(i)).append(" ; ");
        }
        int ofLocks = ofRooms < 2 ? 0 : full == 1 ? 6 : draw(7);
        for (int i = 0; i < ofLocks; i++) {
            lockLine(b);
        }
        int ofMen = full == 1 ? 5 : draw(6);
        for (int i = 0; i < ofMen; i++) {
            men.add(name());
            b.append("man ").append(men.get(i)).append(" ").append(draw(wide)).append(" ").append(draw(high)).append(" ; ");
        }
        int ofKeys = ofMen == 0 ? 0 : full == 1 ? 8 : draw(9);
        for (int i = 0; i < ofKeys; i++) {
            keys.add(name());
            b.append("key ").append(keys.get(i)).append(" ").append(any(random, men, "")).append(" ").append(ward()).append(" ; ");
        }
        if (!slowTold && draw(2) == 0) {
            b.append("slow ").append(1 + draw(3)).append(" ; ");
        }
        if (draw(20) == 0) {
            String[] more = {"room qq ; ", "man qq 0 0 ; ", "key qq " + any(random, men, "a") + " 1 ; ", "field 3 3 ; ", "slow 1 ; "};
            b.append(more[draw(more.length)]);
        }
        return b.toString();
    }

    private void lockLine(StringBuilder b) {
        int from = draw(rooms.size());
        int to = (from + 1 + draw(rooms.size() - 1)) % rooms.size();
        locks.add(name());
        b.append("lock ").append(locks.get(locks.size() - 1)).append(" ").append(rooms.get(from)).append(" ").append(rooms.get(to));
        b.append(" ").append(draw(wide)).append(" ").append(draw(high)).append(" ").append(ward());
        b.append(draw(3) == 0 ? " open ; " : " ; ");
    }

    private String bookText() {
        StringBuilder b = new StringBuilder();
        int lines = draw(12) == 0 ? 39 + draw(3) : draw(8);
        LostKeys y = x;
        for (int i = 0; i < lines && b.length() < 400; i++) {
            int what = men.isEmpty() ? 5 : draw(6);
            String m = any(random, men, "a");
            String k = any(random, keys, "a");
            if (i == 0 && !keys.isEmpty() && y.count(3) == keys.size() && y.count(2) == men.size() && draw(2) == 0) {
                // A LINE that is not WRONG, so that the next ones are looked at.
                int key = draw(keys.size());
                k = keys.get(key);
                m = y.key(key, 1) == -1 ? m : men.get(y.key(key, 1));
                what = draw(3) == 0 ? 2 : 0;
            }
            switch (what) {
                case 0 -> b.append(m).append(" drops ").append(k);
                case 1 -> b.append(m).append(" picks ").append(k);
                case 2 -> b.append(m).append(" tries ").append(k).append(" ").append(any(random, locks, "a"));
                case 3, 4 -> b.append(m).append(" walks ").append(draw(6)).append(" ").append(draw(6));
                default -> b.append("day ").append(draw(3) == 0 ? draw(62) : 1 + draw(9));
            }
            b.append(lines > 20 ? ";" : " ; ");
        }
        return b.toString();
    }

    private String sentenceText() {
        StringBuilder b = new StringBuilder();
        cond(b, draw(4) == 0 ? 9 : 3);
        return b.toString();
    }

    private void cond(StringBuilder b, int deepest) {
        one(b, deepest);
        int more = draw(3) == 0 ? draw(4) : draw(2);
        for (int i = 0; i < more && b.length() < 190; i++) {
            b.append(draw(2) == 0 ? " and " : " or ");
            one(b, deepest);
        }
    }

    private void one(StringBuilder b, int deepest) {
        String[] of = {"ward", "lain", "turned", "number"};
        String[] signs = {"<", "=", ">"};
        int what = draw(deepest > 5 ? 14 : 9);
        switch (deepest <= 0 && (what < 2 || what > 8) ? 2 : what) {
            case 0, 9, 10 -> {
                b.append("not ");
                one(b, deepest - 1);
            }
            case 1, 11, 12 -> {
                b.append("( ");
                cond(b, deepest - 1);
                b.append(" )");
            }
            case 2 -> b.append("lying");
            case 3 -> b.append("of ").append(any(random, men, "a"));
            case 4 -> b.append("had ").append(any(random, men, "a"));
            case 5 -> b.append("fits ").append(any(random, locks, "a"));
            case 6 -> b.append("near ").append(any(random, locks, "a"));
            default -> b.append(of[draw(4)]).append(" ").append(signs[draw(3)]).append(" ").append(draw(3) == 0 ? draw(64) : draw(5));
        }
    }
}
