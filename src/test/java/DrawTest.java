/** Promises 32 (drawn) and 33 (odds). */
public final class DrawTest {
    private static int x;

    public static void main(String[] args) {
        wrongOnes();
        acts();
        manByMan();
        odds();
        Check.finish();
    }

    private static int draw(int n) {
        x = x * 1103515245 + 12345;
        return (x >>> 8) % n;
    }

    /** A seed whose first draws of 4 are these. */
    private static int seedOf(int... draws) {
        for (int seed = -5000; seed < 100000; seed++) {
            x = seed;
            boolean right = true;
            for (int d : draws) {
                right &= draw(4) == d;
            }
            if (right) {
                return seed;
            }
        }
        throw new IllegalStateException("no such seed");
    }

    private static void wrongOnes() {
        LostKeys t = Check.town(TownTest.SHOP);
        Check.due("drawn(0, 1)", t.drawn(0, 1), -1);
        Check.due("drawn(61, 1)", t.drawn(61, 1), -1);
        Check.due("drawn(-1, 1)", t.drawn(-1, 1), -1);
        Check.due("drawn(60, 1)", t.drawn(60, 1), 60);
        Check.due("now(0)", t.now(0), 60);
        Check.due("undo()", t.undo(), 0);
        Check.due("now(0)", t.now(0), 0);
        for (int i = 0; i < 6; i++) {
            t.drawn(60, i);
        }
        Check.due("drawn(60, 1) with 40 days left", t.drawn(60, 1), 40);
        Check.due("drawn(60, 1) with none left", t.drawn(60, 1), 0);
        Check.due("undo()", t.undo(), 6);
        Check.due("now(0)", t.now(0), 360);
        t.drawn(39, 1);
        Check.due("drawn(2, 1) with one day left", t.drawn(2, 1), 1);
        Check.due("undo()", t.undo(), 7);
        Check.due("now(0)", t.now(0), 399);
        Check.due("drawn(1, 1) without men", Check.town("room a;").drawn(1, 1), -1);
        Check.due("odds(3, 1, 1)", t.odds(3, 1, 1), -1);
        Check.due("odds(-1, 1, 1)", t.odds(-1, 1, 1), -1);
        Check.due("odds(0, 0, 1)", t.odds(0, 0, 1), -1);
        Check.due("odds(0, 31, 1)", t.odds(0, 31, 1), -1);
    }

    private static void dueMan(LostKeys t, String what, int x, int y) {
        Check.due("X by " + what, t.man(0, 0), x);
        Check.due("Y by " + what, t.man(0, 1), y);
        t.undo();
    }

    private static void acts() {
        LostKeys t = Check.town("field 3 3;room a;room b;lock c a b 1 1 5;lock d a b 1 1 6;man m 1 1;key k m 5;key l m 6;slow 9;");
        t.drawn(1, seedOf(0, 0));
        dueMan(t, "draws 0, 0", 2, 1);
        t.drawn(1, seedOf(0, 1));
        dueMan(t, "draws 0, 1", 0, 1);
        t.drawn(1, seedOf(0, 2));
        dueMan(t, "draws 0, 2", 1, 2);
        t.drawn(1, seedOf(0, 3));
        dueMan(t, "draws 0, 3", 1, 0);
        for (int to = 0; to < 4; to++) {
            // The second walk goes beyond the field.
            t.drawn(1, seedOf(0, to));
            t.drawn(1, seedOf(0, to));
            dueMan(t, "draws 0, " + to + " twice", to == 0 ? 2 : to == 1 ? 0 : 1, to == 2 ? 2 : to == 3 ? 0 : 1);
            t.undo();
        }
        t.drawn(1, seedOf(1));
        Check.due("keys that lie by draw 1", t.now(1), 1);
        Check.due("days lain by draw 1", t.key(0, 5), 1);
        t.drawn(1, seedOf(1));
        Check.due("keys that lie by draw 1 again", t.now(1), 3);
        t.drawn(1, seedOf(1));
        Check.due("keys that lie by draw 1 a third time", t.now(1), 3);
        t.drawn(1, seedOf(2));
        Check.due("keys that lie by draw 2", t.now(1), 2);
        t.drawn(1, seedOf(3));
        Check.due("locks open by draw 3", t.now(2), 1);
        t.drawn(1, seedOf(3));
        Check.due("locks open by draw 3 again", t.now(2), 0);
        t.drop(0, 0);
        t.pick(0, 1);
        t.drawn(1, seedOf(3));
        Check.due("locks open by draw 3 of a key that does not fit the first", t.now(2), 0);
        t.walk(0, 1, 0);
        Check.due("drawn() where nothing lies", t.drawn(1, seedOf(2)), 1);
        Check.due("keys that lie", t.now(1), 1);
        Check.due("drawn() where no lock is", t.drawn(1, seedOf(3)), 1);
        Check.due("locks open", t.now(2), 0);
    }

    private static void manByMan() {
        LostKeys t = Check.town("field 3 3;room a;room b;lock c a b 0 0 5;man m 1 1;man n 1 1;key k m 4;slow 1;");
        t.drawn(1, seedOf(1, 2));
        Check.due("the second has what the first dropped", t.key(0, 1), 1);
        Check.due("key(0, 4)", t.key(0, 4), 4);
        t.undo();
        t.drawn(1, seedOf(2, 1));
        Check.due("the first has it still", t.key(0, 1), 0);
        t.undo();
        t.drawn(1, seedOf(1, 0, 0));
        Check.due("the day goes behind the draws", t.key(0, 4), 5);
        Check.due("now(2)", t.now(2), 1);
        Check.due("now(4)", t.now(4), 1);
        Check.due("man(1, 0)", t.man(1, 0), 2);
    }

    private static void odds() {
        for (int seed : new int[] {1, -77, Integer.MAX_VALUE - 3}) {
            for (int l = 0; l < 3; l++) {
                LostKeys t = Check.town(TownTest.SHOP);
                int open = 0;
                for (int i = 0; i < 30; i++) {
                    t.drawn(20, seed + i);
                    open += t.lock(l, 5);
                    t.undo();
                }
                Check.due("odds(" + l + ", 30, " + seed + ")", t.odds(l, 30, seed), open);
            }
        }
        LostKeys t = Check.town(TownTest.SHOP);
        int once = t.odds(2, 1, 9);
        t.drawn(20, 9);
        Check.due("odds(2, 1, 9) of one seed", once, t.lock(2, 5));
        t.undo();
        Check.due("now(0) behind odds", t.now(0), 0);
        Check.due("undo() behind odds", t.undo(), -1);
        LostKeys none = Check.town("room a;room b;lock c a b 0 0 5 open;lock d a b 0 0 5;");
        Check.due("odds(0, 7, 1) without men", none.odds(0, 7, 1), 7);
        Check.due("odds(1, 7, 1) without men", none.odds(1, 7, 1), 0);
    }
}
