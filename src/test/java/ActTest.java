/** Promises 10 (drop) to 15 (undo). */
public final class ActTest {
    public static void main(String[] args) {
        dropAndPick();
        tries();
        walk();
        days();
        daysOver();
        undo();
        Check.finish();
    }

    private static void dropAndPick() {
        LostKeys x = Check.town(TownTest.SHOP);
        Check.due("drop(1, 0)", x.drop(1, 0), 1);
        Check.due("drop(0, 0)", x.drop(0, 0), 0);
        Check.due("drop(0, 0) again", x.drop(0, 0), 1);
        Check.due("drop(2, 0)", x.drop(2, 0), -1);
        Check.due("drop(0, 3)", x.drop(0, 3), -1);
        Check.due("drop(-1, 0)", x.drop(-1, 0), -1);
        Check.due("drop(0, -1)", x.drop(0, -1), -1);
        x.days(3);
        Check.due("key(0, 5) behind 3 days", x.key(0, 5), 3);
        Check.due("pick(1, 0) from another cell", x.pick(1, 0), 1);
        Check.due("pick(0, 1) that he has", x.pick(0, 1), 1);
        Check.due("pick(0, 0)", x.pick(0, 0), 0);
        Check.due("key(0, 1)", x.key(0, 1), 0);
        Check.due("key(0, 5) when had", x.key(0, 5), 0);
        Check.due("key(0, 6) when had", x.key(0, 6), 1);
        Check.due("pick(2, 0)", x.pick(2, 0), -1);
        Check.due("pick(0, 3)", x.pick(0, 3), -1);
        Check.due("drop(0, 0) again", x.drop(0, 0), 0);
        Check.due("key(0, 5) dropped again", x.key(0, 5), 0);
        LostKeys y = Check.town("man a 1 1;man b 1 1;key k a 0;");
        y.drop(0, 0);
        Check.due("pick(1, 0) by another man", y.pick(1, 0), 0);
        Check.due("key(0, 0)", y.key(0, 0), 0);
        Check.due("key(0, 1)", y.key(0, 1), 1);
    }

    private static void tries() {
        LostKeys x = Check.town("room a;room b;lock c a b 1 1 7;lock d a b 1 1 6 open;lock e a b 0 0 7;man m 1 1;man n 1 1;key k m 7;key l n 6;");
        Check.due("tries(1, 0, 2)", x.tries(1, 0, 2), 1);
        Check.due("tries(0, 0, 2)", x.tries(0, 0, 2), 2);
        x.walk(0, 0, 1);
        Check.due("tries(0, 0, 0) beside it by X", x.tries(0, 0, 0), 2);
        Check.due("tries(0, 0, 2) beside it by Y", x.tries(0, 0, 2), 2);
        x.walk(0, 1, 1);
        Check.due("tries(1, 1, 2), not there and not fitting", x.tries(1, 1, 2), 2);
        Check.due("tries(0, 0, 1)", x.tries(0, 0, 1), 3);
        Check.due("now(2)", x.now(2), 2);
        Check.due("tries(0, 0, 0)", x.tries(0, 0, 0), 0);
        Check.due("now(2)", x.now(2), 3);
        Check.due("tries(0, 0, 0)", x.tries(0, 0, 0), 0);
        Check.due("now(2)", x.now(2), 2);
        Check.due("tries(1, 1, 1)", x.tries(1, 1, 1), 0);
        Check.due("now(2)", x.now(2), 0);
        Check.due("now(4)", x.now(4), 0);
        Check.due("tries(2, 0, 0)", x.tries(2, 0, 0), -1);
        Check.due("tries(0, 2, 0)", x.tries(0, 2, 0), -1);
        Check.due("tries(0, 0, 3)", x.tries(0, 0, 3), -1);
        Check.due("tries(0, 0, -1)", x.tries(0, 0, -1), -1);
        Check.due("tries(1, 0, 3)", x.tries(1, 0, 3), -1);
        x.drop(0, 0);
        Check.due("tries(0, 0, 0) of one that lies", x.tries(0, 0, 0), 1);
    }

    private static void walk() {
        LostKeys x = Check.town(TownTest.SHOP);
        x.drop(0, 1);
        Check.due("walk(0, 0, 0)", x.walk(0, 0, 0), 1);
        Check.due("walk(0, 1, 1)", x.walk(0, 1, 1), 1);
        Check.due("walk(0, 2, 0)", x.walk(0, 2, 0), 1);
        Check.due("walk(0, -1, 0)", x.walk(0, -1, 0), -1);
        Check.due("walk(0, 4, 0)", x.walk(0, 4, 0), -1);
        Check.due("walk(0, 0, 3)", x.walk(0, 0, 3), -1);
        Check.due("walk(2, 1, 0)", x.walk(2, 1, 0), -1);
        Check.due("walk(-1, 1, 0)", x.walk(-1, 1, 0), -1);
        Check.due("walk(0, 1, 0)", x.walk(0, 1, 0), 0);
        Check.due("walk(0, 1, 1)", x.walk(0, 1, 1), 0);
        Check.due("man(0, 0)", x.man(0, 0), 1);
        Check.due("man(0, 1)", x.man(0, 1), 1);
        Check.due("key(0, 2) that he has", x.key(0, 2), 1);
        Check.due("key(0, 3) that he has", x.key(0, 3), 1);
        Check.due("key(1, 2) that lies", x.key(1, 2), 0);
        Check.due("key(2, 2) of another", x.key(2, 2), 2);
        Check.due("walk(0, 0, 1)", x.walk(0, 0, 1), 0);
        Check.due("walk(0, 0, 0)", x.walk(0, 0, 0), 0);
        Check.due("man(0, 3)", x.man(0, 3), 2);
    }

    private static void days() {
        LostKeys x = Check.town("room a;room b;lock c a b 0 0 42;man m 0 0;key k m 21;key l m 42;slow 3;");
        Check.due("days(0)", x.days(0), -1);
        Check.due("days(61)", x.days(61), -1);
        Check.due("days(-1)", x.days(-1), -1);
        x.drop(0, 0);
        // From 010101 to 101010: the lowest bit first, one on each third DAY.
        int[] wards = {20, 22, 18, 26, 10, 42};
        for (int i = 0; i < 6; i++) {
            Check.due("days(2)", x.days(2), 2);
            Check.due("key(0, 6)", x.key(0, 6), i);
            Check.due("days(1)", x.days(1), 1);
            Check.due("key(0, 4)", x.key(0, 4), wards[i]);
            Check.due("key(0, 6)", x.key(0, 6), i + 1);
            Check.due("now(2)", x.now(2), i == 5 ? 1 : 0);
        }
        Check.due("now(3)", x.now(3), 6);
        Check.due("now(4)", x.now(4), 1);
        Check.due("days(9)", x.days(9), 9);
        Check.due("now(3)", x.now(3), 6);
        Check.due("now(4)", x.now(4), 1);
        x.tries(0, 1, 0);
        Check.due("now(2) shut by a man", x.now(2), 0);
        x.days(2);
        Check.due("now(2) two days on", x.now(2), 0);
        x.days(1);
        Check.due("now(2) three days on", x.now(2), 1);
        Check.due("now(4)", x.now(4), 2);
        LostKeys y = Check.town("man m 0 0;key k m 21;slow 1;");
        y.drop(0, 0);
        y.days(5);
        Check.due("key(0, 5) without locks", y.key(0, 5), 5);
        Check.due("key(0, 4) without locks", y.key(0, 4), 21);
        LostKeys z = Check.town("room a;room b;lock c a b 0 0 1;man m 0 0;key k m 1;key l m 0;slow 1;");
        z.days(9);
        Check.due("now(2) by keys that are had", z.now(2), 0);
        z.drop(0, 0);
        z.drop(0, 1);
        z.days(1);
        Check.due("now(4) of two on one day", z.now(4), 1);
        Check.due("now(3) of two on one day", z.now(3), 1);
    }

    private static void daysOver() {
        LostKeys x = Check.town("man m 0 0;key k m 21;");
        x.drop(0, 0);
        for (int i = 0; i < 6; i++) {
            Check.due("days(60)", x.days(60), 60);
        }
        Check.due("days(39)", x.days(39), 39);
        Check.due("now(0)", x.now(0), 399);
        Check.due("days(2)", x.days(2), 1);
        Check.due("now(0)", x.now(0), 400);
        Check.due("days(1)", x.days(1), 0);
        Check.due("drawn(1, 1)", x.drawn(1, 1), 0);
        Check.due("now(0)", x.now(0), 400);
        Check.due("key(0, 5)", x.key(0, 5), 400);
        Check.due("undo()", x.undo(), 7);
        Check.due("now(0)", x.now(0), 399);
    }

    private static void undo() {
        LostKeys x = Check.town(TownTest.SHOP);
        Check.due("undo()", x.undo(), -1);
        x.drop(0, 0);
        x.days(2);
        Check.due("now(2)", x.now(2), 3);
        x.pick(0, 0);
        x.tries(0, 0, 0);
        Check.due("now(2)", x.now(2), 2);
        x.walk(0, 1, 0);
        x.walk(0, 3, 0);
        x.drop(1, 0);
        x.days(0);
        Check.due("undo() of walk", x.undo(), 4);
        Check.due("key(0, 2)", x.key(0, 2), 0);
        Check.due("undo() of tries", x.undo(), 3);
        Check.due("now(2)", x.now(2), 3);
        Check.due("undo() of pick", x.undo(), 2);
        Check.due("key(0, 1)", x.key(0, 1), -1);
        Check.due("key(0, 5)", x.key(0, 5), 2);
        Check.due("undo() of days", x.undo(), 1);
        Check.due("now(0)", x.now(0), 0);
        Check.due("now(2)", x.now(2), 2);
        Check.due("now(3)", x.now(3), 0);
        Check.due("now(4)", x.now(4), 0);
        Check.due("key(0, 4)", x.key(0, 4), 4);
        Check.due("key(0, 6)", x.key(0, 6), 0);
        Check.due("undo() of drop", x.undo(), 0);
        Check.due("key(0, 1)", x.key(0, 1), 0);
        Check.due("undo() of none", x.undo(), -1);
        for (int i = 1; i <= 11; i++) {
            x.days(1);
        }
        for (int i = 7; i >= 0; i--) {
            Check.due("undo() of 8", x.undo(), i);
            Check.due("now(0)", x.now(0), 3 + i);
        }
        Check.due("undo() of a ninth", x.undo(), -1);
        Check.due("now(0)", x.now(0), 3);
        x.drawn(5, 77);
        Check.due("undo() of drawn", x.undo(), 0);
        Check.due("now(0)", x.now(0), 3);
        Check.tape(x, "day 5;ann drops iron;");
        x.book(0);
        Check.due("undo() of a book judged", x.undo(), -1);
        Check.tape(x, "day 5;ann drops iron;ann drops iron;");
        Check.due("book(1)", x.book(1), 2);
        Check.due("now(0)", x.now(0), 8);
        Check.due("key(1, 1)", x.key(1, 1), -1);
        Check.due("undo() of a book lived", x.undo(), 0);
        Check.due("now(0)", x.now(0), 3);
        Check.due("key(1, 1)", x.key(1, 1), 0);
    }
}
