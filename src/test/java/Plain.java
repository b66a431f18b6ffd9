import java.io.ByteArrayOutputStream;
import java.nio.charset.StandardCharsets;
import java.util.ArrayDeque;
import java.util.ArrayList;
import java.util.Arrays;
import java.util.Deque;
import java.util.HashMap;
import java.util.LinkedHashMap;
import java.util.List;
import java.util.Map;
import java.util.NoSuchElementException;
import java.util.Set;
import java.util.TreeMap;
import java.util.function.IntPredicate;
import java.util.regex.Matcher;
import java.util.regex.Pattern;

/**
 * The document once more, written without a thought for speed or memory and, where it can be, by trying all out:
 * FuzzTest holds LostKeys against it. It shares no code with LostKeys.
 */
final class Plain {
    private static final int NONE = -1;
    private static final Set<String> RESERVED = Set.of("field", "room", "lock", "open", "man", "key", "slow",
            "drops", "picks", "tries", "walks", "day",
            "or", "and", "not", "lying", "of", "had", "fits", "near", "ward", "lain", "turned", "number");

    private static final class Fault extends RuntimeException {
        private static final long serialVersionUID = 1;
        final int kind;
        final int place;

        Fault(int kind, int place) {
            this.kind = kind;
            this.place = place;
        }
    }

    private record Token(String text, int place, boolean ends) {
        boolean isNumber() {
            return text.matches("[0-9]{1,3}");
        }

        boolean isWord() {
            return text.matches("[a-z]{1,7}");
        }

        boolean isName() {
            return isWord() && !RESERVED.contains(text);
        }
    }

    private static final class Text {
        final List<Token> tokens = new ArrayList<>();
        int at = 0;

        Text(String text, int most) {
            Matcher m = Pattern.compile("[a-z0-9]+|[^ \n]", Pattern.DOTALL).matcher(text);
            while (m.find() && m.start() < most) {
                tokens.add(new Token(m.group(), m.start(), false));
            }
            tokens.add(text.length() > most ? new Token("too long", most, false) : new Token("the end", text.length(), true));
        }

        Token see() {
            return tokens.get(at);
        }

        boolean sees(String text) {
            return see().text.equals(text);
        }

        Token take() {
            return tokens.get(at++);
        }

        RuntimeException fault(int kind) {
            return new Fault(kind, see().place);
        }

        void take(String text) {
            if (!sees(text)) {
                throw fault(1);
            }
            at++;
        }

        int takeNumber(int least, int most) {
            if (!see().isNumber()) {
                throw fault(1);
            }
            int n = Integer.parseInt(see().text);
            if (n < least || n > most) {
                throw fault(2);
            }
            at++;
            return n;
        }

        String takeNewName(Town town) {
            if (!see().isName()) {
                throw fault(1);
            }
            if (town.sortOf.containsKey(see().text)) {
                throw fault(3);
            }
            return take().text;
        }

        int takeOld(Town town, String sort) {
            if (!see().isName()) {
                throw fault(1);
            }
            if (!sort.equals(town.sortOf.get(see().text))) {
                throw fault(3);
            }
            return town.numberOf.get(take().text);
        }
    }

    private static final class Lock {
        String name;
        int a, b, x, y, ward;
        boolean open;
    }

    private static final class Man {
        String name;
        int x, y;
    }

    private static final class Key {
        String name;
        int first, ward;
    }

    private static final class Town {
        int wide = 5, high = 5, slow = 2;
        final Map<String, String> sortOf = new HashMap<>();
        final Map<String, Integer> numberOf = new HashMap<>();
        int rooms = 0;
        final List<Lock> locks = new ArrayList<>();
        final List<Man> men = new ArrayList<>();
        final List<Key> keys = new ArrayList<>();

        void tell(String name, String sort, int number) {
            sortOf.put(name, sort);
            numberOf.put(name, number);
        }

        boolean cell(int x, int y) {
            return x >= 0 && y >= 0 && x < wide && y < high;
        }

        int nearest(int x, int y) {
            int best = NONE;
            for (int l = 0; l < locks.size(); l++) {
                if (best == NONE || steps(l, x, y) < steps(best, x, y)) {
                    best = l;
                }
            }
            return best;
        }

        private int steps(int l, int x, int y) {
            return Math.abs(locks.get(l).x - x) + Math.abs(locks.get(l).y - y);
        }
    }

    private static final class Lain {
        int man, x, y, ward, lain, turned;

        Lain copy() {
            Lain c = new Lain();
            c.man = man;
            c.x = x;
            c.y = y;
            c.ward = ward;
            c.lain = lain;
            c.turned = turned;
            return c;
        }
    }

    private static final class World {
        final Town town;
        int day = 0, turns = 0, openings = 0;
        final List<Boolean> open = new ArrayList<>();
        final List<int[]> men = new ArrayList<>();
        final List<Lain> keys = new ArrayList<>();
        int x;

        World(Town town) {
            this.town = town;
            town.locks.forEach(l -> open.add(l.open));
            town.men.forEach(m -> men.add(new int[] {m.x, m.y}));
            for (Key k : town.keys) {
                Lain s = new Lain();
                s.man = k.first;
                s.ward = k.ward;
                keys.add(s);
            }
        }

        World(World w) {
            town = w.town;
            day = w.day;
            turns = w.turns;
            openings = w.openings;
            open.addAll(w.open);
            w.men.forEach(m -> men.add(m.clone()));
            w.keys.forEach(k -> keys.add(k.copy()));
        }

        int keyX(int k) {
            return keys.get(k).man == NONE ? keys.get(k).x : men.get(keys.get(k).man)[0];
        }

        int keyY(int k) {
            return keys.get(k).man == NONE ? keys.get(k).y : men.get(keys.get(k).man)[1];
        }

        int openBits() {
            return bits(open.size(), open::get);
        }

        boolean lies(int k) {
            return keys.get(k).man == NONE;
        }

        int drop(int m, int k) {
            Lain s = keys.get(k);
            if (s.man != m) {
                return 1;
            }
            s.x = men.get(m)[0];
            s.y = men.get(m)[1];
            s.lain = 0;
            s.man = NONE;
            return 0;
        }

        int pick(int m, int k) {
            if (!lies(k) || keyX(k) != men.get(m)[0] || keyY(k) != men.get(m)[1]) {
                return 1;
            }
            keys.get(k).man = m;
            return 0;
        }

        int tries(int m, int k, int l) {
            Lock lock = town.locks.get(l);
            if (keys.get(k).man != m) {
                return 1;
            }
            if (lock.x != men.get(m)[0] || lock.y != men.get(m)[1]) {
                return 2;
            }
            if (lock.ward != keys.get(k).ward) {
                return 3;
            }
            open.set(l, !open.get(l));
            return 0;
        }

        int walk(int m, int x, int y) {
            int[] at = men.get(m);
            boolean byX = y == at[1] && (x == at[0] + 1 || x == at[0] - 1);
            boolean byY = x == at[0] && (y == at[1] + 1 || y == at[1] - 1);
            if (!byX && !byY) {
                return 1;
            }
            at[0] = x;
            at[1] = y;
            return 0;
        }

        boolean dayGoes() {
            if (day == 400) {
                return false;
            }
            for (int k = 0; k < keys.size(); k++) {
                Lain s = keys.get(k);
                if (s.man != NONE) {
                    continue;
                }
                s.lain++;
                if (s.lain % town.slow != 0 || town.locks.isEmpty()) {
                    continue;
                }
                int l = town.nearest(s.x, s.y);
                int ward = town.locks.get(l).ward;
                for (int bit = 0; bit < 6; bit++) {
                    if ((s.ward >> bit & 1) != (ward >> bit & 1)) {
                        s.ward ^= 1 << bit;
                        s.turned++;
                        turns++;
                        break;
                    }
                }
                if (s.ward == ward && !open.get(l)) {
                    open.set(l, true);
                    openings++;
                }
            }
            day++;
            return true;
        }

        int daysGo(int n) {
            int went = 0;
            while (went < n && dayGoes()) {
                went++;
            }
            return went;
        }

        int draw(int n) {
            x = x * 1103515245 + 12345;
            return (x >>> 8) % n;
        }

        int drawn(int n, int seed) {
            x = seed;
            int went = 0;
            while (went < n && day < 400) {
                for (int m = 0; m < men.size(); m++) {
                    drawnMan(m);
                }
                dayGoes();
                went++;
            }
            return went;
        }

        private void drawnMan(int m) {
            int[] at = men.get(m);
            int had = first(keys.size(), k -> keys.get(k).man == m);
            int lying = first(keys.size(), k -> lies(k) && keyX(k) == at[0] && keyY(k) == at[1]);
            int lock = first(open.size(), l -> town.locks.get(l).x == at[0] && town.locks.get(l).y == at[1]);
            int what = draw(4);
            if (what == 0) {
                int to = draw(4);
                int x = at[0] + (to == 0 ? 1 : to == 1 ? -1 : 0);
                int y = at[1] + (to == 2 ? 1 : to == 3 ? -1 : 0);
                if (town.cell(x, y)) {
                    walk(m, x, y);
                }
            } else if (what == 1 && had != NONE) {
                drop(m, had);
            } else if (what == 2 && lying != NONE) {
                pick(m, lying);
            } else if (what == 3 && had != NONE && lock != NONE) {
                tries(m, had, lock);
            }
        }
    }

    private interface Said {
        boolean of(World w, int k);
    }

    private record Kept(World world, Said sentence) {
    }

    private static int bits(int n, IntPredicate p) {
        int bits = 0;
        for (int i = 0; i < n; i++) {
            bits |= p.test(i) ? 1 << i : 0;
        }
        return bits;
    }

    private static int first(int n, IntPredicate p) {
        for (int i = 0; i < n; i++) {
            if (p.test(i)) {
                return i;
            }
        }
        return NONE;
    }

    private String tape = "";
    private World world = new World(new Town());
    private Said sentence = null;
    private int ones = 0;
    private int fault = 0;
    private final Deque<World> undo = new ArrayDeque<>();
    private final Kept[] kept = new Kept[2];
    private int[] lost = {NONE, NONE};
    private Map<Integer, Integer> matched = Map.of();
    private List<Integer> way = List.of();
    private int tells = NONE;
    private int[] twin = {NONE, NONE};
    private String tag = "";
    private int[] told = {NONE, NONE, NONE, NONE};

    private Town t() {
        return world.town;
    }

    private boolean isLock(int l) {
        return l >= 0 && l < t().locks.size();
    }

    private boolean isKey(int k) {
        return k >= 0 && k < t().keys.size();
    }

    private boolean isMan(int m) {
        return m >= 0 && m < t().men.size();
    }

    private boolean isRoom(int r) {
        return r >= 0 && r < t().rooms;
    }

    private void keep(World before) {
        undo.addLast(before);
        if (undo.size() > 8) {
            undo.removeFirst();
        }
    }

    public int feed(int a, int b, int c, int d, int e) {
        if (tape.length() + 20 > 940) {
            return NONE;
        }
        ByteArrayOutputStream more = new ByteArrayOutputStream();
        for (int n : new int[] {a, b, c, d, e}) {
            more.write(n >>> 24);
            more.write(n >>> 16);
            more.write(n >>> 8);
            more.write(n);
        }
        tape += more.toString(StandardCharsets.ISO_8859_1);
        return tape.length();
    }

    public boolean end(int n) {
        if (n < 0 || n > tape.length()) {
            return false;
        }
        tape = tape.substring(0, n);
        return true;
    }

    private String emptied() {
        String text = tape;
        tape = "";
        return text;
    }

    public int town() {
        try {
            Text text = new Text(emptied(), 900);
            Town town = new Town();
            int lines = 0;
            Map<String, Integer> told = new TreeMap<>();
            while (!text.see().ends) {
                townLine(text, town, told);
                text.take(";");
                lines++;
            }
            world = new World(town);
            sentence = null;
            undo.clear();
            fault = 0;
            return lines;
        } catch (Fault f) {
            fault = f.kind;
            return -1 - f.place;
        }
    }

    private static void townLine(Text text, Town town, Map<String, Integer> told) {
        String what = text.see().text;
        int before = told.getOrDefault(what, 0);
        Integer most = Map.of("room", 6, "lock", 6, "man", 5, "key", 8).get(what);
        if (most != null && before == most) {
            throw text.fault(4);
        }
        boolean late = what.equals("field") && (told.containsKey("lock") || told.containsKey("man"));
        if (most == null && before == 1 && (what.equals("slow") || what.equals("field")) || late) {
            throw text.fault(3);
        }
        told.put(what, before + 1);
        switch (what) {
            case "field" -> {
                text.take();
                town.wide = text.takeNumber(2, 6);
                town.high = text.takeNumber(2, 6);
            }
            case "slow" -> {
                text.take();
                town.slow = text.takeNumber(1, 9);
            }
            case "room" -> {
                text.take();
                town.tell(text.takeNewName(town), "room", town.rooms++);
            }
            case "lock" -> lockLine(text, town);
            case "man" -> {
                text.take();
                Man m = new Man();
                m.name = text.takeNewName(town);
                m.x = text.takeNumber(0, town.wide - 1);
                m.y = text.takeNumber(0, town.high - 1);
                town.tell(m.name, "man", town.men.size());
                town.men.add(m);
            }
            case "key" -> {
                text.take();
                Key k = new Key();
                k.name = text.takeNewName(town);
                k.first = text.takeOld(town, "man");
                k.ward = text.takeNumber(0, 63);
                town.tell(k.name, "key", town.keys.size());
                town.keys.add(k);
            }
            default -> throw text.fault(1);
        }
    }

    private static void lockLine(Text text, Town town) {
        text.take();
        Lock l = new Lock();
        l.name = text.takeNewName(town);
        l.a = text.takeOld(town, "room");
        int second = text.at;
        l.b = text.takeOld(town, "room");
        if (l.a == l.b) {
            text.at = second;
            throw text.fault(3);
        }
        l.x = text.takeNumber(0, town.wide - 1);
        l.y = text.takeNumber(0, town.high - 1);
        l.ward = text.takeNumber(0, 63);
        if (text.sees("open")) {
            text.take();
            l.open = true;
        }
        town.tell(l.name, "lock", town.locks.size());
        town.locks.add(l);
    }

    public int fault() {
        return fault;
    }

    public int lock(int l, int what) {
        if (!isLock(l) || what < 0 || what > 5) {
            return NONE;
        }
        Lock k = t().locks.get(l);
        return new int[] {k.a, k.b, k.x, k.y, k.ward, world.open.get(l) ? 1 : 0}[what];
    }

    private int fits(int k) {
        return bits(t().locks.size(), l -> t().locks.get(l).ward == world.keys.get(k).ward);
    }

    public int key(int k, int what) {
        if (!isKey(k) || what < 0 || what > 7) {
            throw new NoSuchElementException();
        }
        Lain s = world.keys.get(k);
        return new int[] {t().keys.get(k).first, s.man, world.keyX(k), world.keyY(k), s.ward,
            s.man == NONE ? s.lain : 0, s.turned, fits(k)}[what];
    }

    public int man(int m, int what) {
        if (!isMan(m) || what < 0 || what > 3) {
            throw new NoSuchElementException();
        }
        int x = world.men.get(m)[0];
        int y = world.men.get(m)[1];
        return new int[] {x, y, bits(world.keys.size(), k -> world.keys.get(k).man == m),
            bits(world.keys.size(), k -> world.lies(k) && world.keyX(k) == x && world.keyY(k) == y)}[what];
    }

    public int now(int what) {
        if (what < 0 || what > 4) {
            return NONE;
        }
        return new int[] {world.day, bits(world.keys.size(), world::lies), world.openBits(), world.turns, world.openings}[what];
    }

    private int done(World before, int why) {
        if (why == 0) {
            keep(before);
        }
        return why;
    }

    public int drop(int m, int k) {
        return isMan(m) && isKey(k) ? done(new World(world), world.drop(m, k)) : NONE;
    }

    public int pick(int m, int k) {
        return isMan(m) && isKey(k) ? done(new World(world), world.pick(m, k)) : NONE;
    }

    public int tries(int m, int k, int l) {
        return isMan(m) && isKey(k) && isLock(l) ? done(new World(world), world.tries(m, k, l)) : NONE;
    }

    public int walk(int m, int x, int y) {
        return isMan(m) && t().cell(x, y) ? done(new World(world), world.walk(m, x, y)) : NONE;
    }

    public int days(int n) {
        if (n < 1 || n > 60) {
            return NONE;
        }
        World before = new World(world);
        int went = world.daysGo(n);
        if (went > 0) {
            keep(before);
        }
        return went;
    }

    public int undo() {
        if (undo.isEmpty()) {
            return NONE;
        }
        world = undo.removeLast();
        return undo.size();
    }

    public int nearest(int x, int y) {
        return t().cell(x, y) ? t().nearest(x, y) : NONE;
    }

    private static int differ(int a, int b) {
        int n = 0;
        for (int bit = 1; bit < 64; bit *= 2) {
            n += (a & bit) == (b & bit) ? 0 : 1;
        }
        return n;
    }

    public int off(int k, int l) {
        return isKey(k) && isLock(l) ? differ(world.keys.get(k).ward, t().locks.get(l).ward) : NONE;
    }

    public int fitting(int k) {
        if (!isKey(k) || !world.lies(k) || t().locks.isEmpty()) {
            return NONE;
        }
        World w = new World(world);
        int ward = t().locks.get(t().nearest(w.keyX(k), w.keyY(k))).ward;
        int went = 0;
        while (w.keys.get(k).ward != ward) {
            if (!w.dayGoes()) {
                return NONE;
            }
            went++;
        }
        return went;
    }

    public int losing(int k, int l) {
        if (!isKey(k) || !isLock(l)) {
            return NONE;
        }
        int best = NONE;
        for (int y = 0; y < t().high; y++) {
            for (int x = 0; x < t().wide; x++) {
                int went = losingIn(k, l, x, y);
                if (went != NONE && (best == NONE || went < best)) {
                    best = went;
                    lost = new int[] {x, y};
                }
            }
        }
        return best;
    }

    private int losingIn(int k, int l, int x, int y) {
        World w = new World(world);
        for (int other = 0; other < w.keys.size(); other++) {
            w.keys.get(other).man = 0;
        }
        Lain s = w.keys.get(k);
        s.man = NONE;
        s.x = x;
        s.y = y;
        s.lain = 0;
        w.open.set(l, false);
        int went = 0;
        while (!w.open.get(l)) {
            if (!w.dayGoes()) {
                return NONE;
            }
            went++;
        }
        return went;
    }

    public int lost(int what) {
        return what == 0 || what == 1 ? lost[what] : NONE;
    }

    public int match() {
        List<Integer> shut = new ArrayList<>();
        for (int l = 0; l < world.open.size(); l++) {
            if (!world.open.get(l)) {
                shut.add(l);
            }
        }
        if (shut.size() > world.keys.size()) {
            return NONE;
        }
        int[] best = new int[shut.size()];
        int least = matchFrom(shut, new int[shut.size()], 0, 0, Integer.MAX_VALUE, best);
        Map<Integer, Integer> found = new HashMap<>();
        for (int i = 0; i < best.length; i++) {
            found.put(shut.get(i), best[i]);
        }
        matched = found;
        return least;
    }

    private int matchFrom(List<Integer> shut, int[] chosen, int at, int sum, int least, int[] best) {
        if (at == chosen.length) {
            if (sum < least) {
                System.arraycopy(chosen, 0, best, 0, at);
            }
            return Math.min(sum, least);
        }
        int now = least;
        for (int k = 0; k < world.keys.size(); k++) {
            int key = k;
            if (first(at, i -> chosen[i] == key) == NONE) {
                chosen[at] = k;
                now = matchFrom(shut, chosen, at + 1, sum + off(k, shut.get(at)), now, best);
            }
        }
        return now;
    }

    public int matched(int l) {
        return matched.getOrDefault(l, NONE);
    }

    public int opens(int n) {
        if (n < 0 || n > 60) {
            return NONE;
        }
        World w = new World(world);
        w.daysGo(n);
        return w.openBits();
    }

    public int way(int a, int b, int n) {
        if (!isRoom(a) || !isRoom(b) || n < 0 || n > 60) {
            return NONE;
        }
        World w = new World(world);
        w.daysGo(n);
        // Ways in the order of their length and then LOCK by LOCK: the first that gets there is the one.
        Map<List<Integer>, Integer> reached = new LinkedHashMap<>();
        reached.put(List.of(), a);
        for (int length = 0; length <= 6; length++) {
            Map<List<Integer>, Integer> further = new LinkedHashMap<>();
            for (Map.Entry<List<Integer>, Integer> e : reached.entrySet()) {
                if (e.getValue() == b) {
                    way = e.getKey();
                    return length;
                }
                for (int l = 0; l < w.open.size(); l++) {
                    Lock lock = t().locks.get(l);
                    if (w.open.get(l) && (lock.a == e.getValue() || lock.b == e.getValue())) {
                        List<Integer> longer = new ArrayList<>(e.getKey());
                        longer.add(l);
                        further.put(longer, lock.a + lock.b - e.getValue());
                    }
                }
            }
            reached = further;
        }
        return NONE;
    }

    public int wayAt(int k) {
        return k >= 0 && k < way.size() ? way.get(k) : NONE;
    }

    private int wardThen(int k, int x, int y, int days) {
        World w = new World(new World(t()));
        for (int other = 0; other < w.keys.size(); other++) {
            w.keys.get(other).man = 0;
        }
        Lain s = w.keys.get(k);
        s.man = NONE;
        s.x = x;
        s.y = y;
        w.daysGo(days);
        return s.ward;
    }

    public int found() {
        byte[] b = emptied().getBytes(StandardCharsets.ISO_8859_1);
        if (b.length != 4 || !t().cell(b[0] & 255, b[1] & 255) || (b[2] & 255) > 63 || t().locks.isEmpty()) {
            return NONE;
        }
        int days = b[3] & 255;
        int bits = bits(world.keys.size(), k -> wardThen(k, b[0], b[1], days) == b[2]);
        if (bits > 0) {
            int least = 99;
            for (int cell = 0; cell < 36; cell++) {
                int x = cell % 6;
                int y = cell / 6;
                if (t().cell(x, y)) {
                    Map<Integer, Integer> seen = new HashMap<>();
                    for (int k = 0; k < world.keys.size(); k++) {
                        if ((bits >> k & 1) == 1) {
                            seen.merge(wardThen(k, x, y, days), 1, Integer::sum);
                        }
                    }
                    int most = seen.values().stream().mapToInt(i -> i).max().orElse(0);
                    if (most < least) {
                        least = most;
                        tells = cell;
                    }
                }
            }
        }
        return bits;
    }

    public int tells() {
        return tells;
    }

    public int twins() {
        int n = world.keys.size();
        for (int d = 0; d <= 6; d++) {
            for (int a = 0; a < n; a++) {
                for (int b = a + 1; b < n; b++) {
                    if (differ(world.keys.get(a).ward, world.keys.get(b).ward) == d) {
                        twin = new int[] {a, b};
                        return d;
                    }
                }
            }
        }
        return NONE;
    }

    public int twin(int what) {
        return what == 0 || what == 1 ? twin[what] : NONE;
    }

    public int tag(int k) {
        if (!isKey(k)) {
            return NONE;
        }
        Lain s = world.keys.get(k);
        String where = s.man == NONE ? " lies at " + s.x + " " + s.y : " had by " + t().men.get(s.man).name;
        int l = first(t().locks.size(), i -> t().locks.get(i).ward == s.ward);
        tag = t().keys.get(k).name + where + (l == NONE ? "" : " fits " + t().locks.get(l).name);
        return tag.length();
    }

    public int byteAt(int i) {
        return i >= 0 && i < tag.length() ? tag.charAt(i) : NONE;
    }

    public int drawn(int n, int seed) {
        if (n < 1 || n > 60 || t().men.isEmpty()) {
            return NONE;
        }
        World before = new World(world);
        int went = world.drawn(n, seed);
        if (went > 0) {
            keep(before);
        }
        return went;
    }

    public int odds(int l, int n, int seed) {
        if (!isLock(l) || n < 1 || n > 30) {
            return NONE;
        }
        int times = 0;
        for (int i = 0; i < n; i++) {
            World w = new World(world);
            w.drawn(20, seed + i);
            times += w.open.get(l) ? 1 : 0;
        }
        return times;
    }

    private interface Line {
        int live(World w);
    }

    public int book(int lives) {
        if (lives != 0 && lives != 1) {
            return -1000;
        }
        List<Line> lines = new ArrayList<>();
        try {
            Text text = new Text(emptied(), 400);
            while (!text.see().ends) {
                lines.add(bookLine(text, lines.size()));
                text.take(";");
            }
            fault = 0;
        } catch (Fault f) {
            fault = f.kind;
            return -2 - f.place;
        }
        World w = new World(world);
        int at = 0;
        int why = 0;
        for (Line line : lines) {
            World before = new World(w);
            why = line.live(w);
            if (why != 0) {
                w = before;
                break;
            }
            at++;
        }
        told = new int[] {why, at, w.day, w.openBits()};
        if (lives == 1) {
            keep(world);
            world = w;
        }
        return why == 0 ? NONE : at;
    }

    private static int plus(int why, int more) {
        return why == 0 ? 0 : why + more;
    }

    private Line bookLine(Text text, int before) {
        boolean day = text.sees("day");
        int m = NONE;
        if (!day) {
            int at = text.at;
            m = text.takeOld(t(), "man");
            text.at = at;
        }
        if (before == 40) {
            throw text.fault(4);
        }
        text.take();
        int man = m;
        if (day) {
            int n = text.takeNumber(1, 60);
            return w -> w.daysGo(n) == n ? 0 : 41;
        }
        String verb = text.see().text;
        if (!List.of("drops", "picks", "tries", "walks").contains(verb)) {
            throw text.fault(1);
        }
        text.take();
        if (verb.equals("walks")) {
            int x = text.takeNumber(0, 5);
            int y = text.takeNumber(0, 5);
            return w -> w.town.cell(x, y) ? plus(w.walk(man, x, y), 30) : 39;
        }
        int k = text.takeOld(t(), "key");
        if (verb.equals("drops")) {
            return w -> w.drop(man, k);
        }
        if (verb.equals("picks")) {
            return w -> plus(w.pick(man, k), 10);
        }
        int l = text.takeOld(t(), "lock");
        return w -> plus(w.tries(man, k, l), 20);
    }

    public int told(int what) {
        return what >= 0 && what < 4 ? told[what] : NONE;
    }

    public int sentence() {
        ones = 0;
        try {
            Text text = new Text(emptied(), 200);
            Said said = cond(text, 1);
            if (!text.see().ends) {
                throw text.fault(1);
            }
            sentence = said;
            fault = 0;
            return ones;
        } catch (Fault f) {
            fault = f.kind;
            return -1 - f.place;
        }
    }

    private Said cond(Text text, int level) {
        Said left = all(text, level);
        while (text.sees("or")) {
            text.take();
            Said a = left;
            Said b = all(text, level);
            left = (w, k) -> a.of(w, k) || b.of(w, k);
        }
        return left;
    }

    private Said all(Text text, int level) {
        Said left = one(text, level);
        while (text.sees("and")) {
            text.take();
            Said a = left;
            Said b = one(text, level);
            left = (w, k) -> a.of(w, k) && b.of(w, k);
        }
        return left;
    }

    private Said one(Text text, int level) {
        String what = text.see().text;
        if (!List.of("not", "(", "lying", "of", "had", "fits", "near", "ward", "lain", "turned", "number").contains(what)) {
            throw text.fault(1);
        }
        if (ones == 20 || level == 9) {
            throw text.fault(4);
        }
        ones++;
        text.take();
        switch (what) {
            case "not": {
                Said not = one(text, level + 1);
                return (w, k) -> !not.of(w, k);
            }
            case "(": {
                Said in = cond(text, level + 1);
                text.take(")");
                return in;
            }
            case "lying":
                return World::lies;
            case "of": {
                int m = text.takeOld(t(), "man");
                return (w, k) -> w.town.keys.get(k).first == m;
            }
            case "had": {
                int m = text.takeOld(t(), "man");
                return (w, k) -> w.keys.get(k).man == m;
            }
            case "fits": {
                int l = text.takeOld(t(), "lock");
                return (w, k) -> w.keys.get(k).ward == w.town.locks.get(l).ward;
            }
            case "near": {
                int l = text.takeOld(t(), "lock");
                return (w, k) -> w.town.nearest(w.keyX(k), w.keyY(k)) == l;
            }
            default:
                return comparison(text, what);
        }
    }

    private static Said comparison(Text text, String what) {
        String sign = text.see().text;
        if (!List.of("<", "=", ">").contains(sign)) {
            throw text.fault(1);
        }
        text.take();
        int n = text.takeNumber(0, 999);
        return (w, k) -> {
            Lain s = w.keys.get(k);
            int is = switch (what) {
                case "ward" -> s.ward;
                case "lain" -> w.lies(k) ? s.lain : 0;
                case "turned" -> s.turned;
                default -> k;
            };
            return Integer.compare(is, n) == List.of("<", "=", ">").indexOf(sign) - 1;
        };
    }

    public int said(int k) {
        if (sentence == null) {
            return NONE;
        }
        List<Integer> keys = new ArrayList<>();
        for (int i = 0; i < world.keys.size(); i++) {
            if (sentence.of(world, i)) {
                keys.add(i);
            }
        }
        return k == NONE ? keys.size() : k >= 0 && k < keys.size() ? keys.get(k) : NONE;
    }

    public boolean image(int k) {
        if (k != 0 && k != 1) {
            return false;
        }
        kept[k] = new Kept(new World(world), sentence);
        return true;
    }

    public boolean restore(int k) {
        if (k != 0 && k != 1 || kept[k] == null) {
            return false;
        }
        world = new World(kept[k].world);
        sentence = kept[k].sentence;
        undo.clear();
        return true;
    }

    public int count(int what) {
        int[] all = {t().rooms, t().locks.size(), t().men.size(), t().keys.size(), t().wide, t().high, t().slow, tape.length()};
        return what >= 0 && what < all.length ? Arrays.stream(all).skip(what).findFirst().orElse(NONE) : NONE;
    }
}
