/** Terms, "==== 2.", and the DAYS: each sentence that names a boundary, tested by itself. */
public final class EdgeActTest {
    private static final String ROOMS = "room a;room b;";

    public static void main(String[] args) {
        sixBits();
        fits();
        nearest();
        nearestOfLike();
        drop();
        dropAnew();
        pick();
        tryLeast();
        tryTurnsIt();
        walkNext();
        walkWithKeys();
        dayLimits();
        slowDivides();
        thereAreLocks();
        lowestBit();
        fitsThen();
        keyByKey();
        newTown();
        throwsNothing();
        Check.finish();
    }

    private static void sixBits() {
        Check.of("A WARD is six bits.");
        LostKeys x = Check.town(ROOMS + "lock c a b 0 0 63;man m 0 0;key k m 0;slow 1;");
        Check.due("off(0, 0)", x.off(0, 0), 6);
        x.drop(0, 0);
        Check.due("fitting(0)", x.fitting(0), 6);
        x.days(5);
        Check.due("key(0, 4) behind five turns", x.key(0, 4), 31);
        Check.due("now(2)", x.now(2), 0);
        x.days(1);
        Check.due("key(0, 4) behind six", x.key(0, 4), 63);
        x.days(60);
        Check.due("key(0, 4) far behind", x.key(0, 4), 63);
        Check.due("key(0, 6)", x.key(0, 6), 6);
    }

    private static void fits() {
        Check.of("A KEY FITS a LOCK, if its WARD is the LOCK's.");
        LostKeys x = Check.town(ROOMS + "lock c a b 0 0 0;lock d a b 0 0 63;lock e a b 0 0 32;man m 0 0;key k m 0;key l m 63;key n m 33;");
        Check.due("key(0, 7)", x.key(0, 7), 1);
        Check.due("key(1, 7)", x.key(1, 7), 2);
        Check.due("key(2, 7), one bit off", x.key(2, 7), 0);
        Check.due("tries(0, 2, 2), one bit off", x.tries(0, 2, 2), 3);
        Check.due("tries(0, 0, 0)", x.tries(0, 0, 0), 0);
    }

    private static void nearest() {
        Check.of("NEAREST to a cell: the LOCK by fewest steps (X and Y) from there");
        // From 0 0 it is four steps to the first and three to the second, though the first is nearer by the beeline.
        LostKeys x = Check.town("field 6 6;" + ROOMS + "lock c a b 2 2 0;lock d a b 3 0 0;");
        Check.due("nearest(0, 0)", x.nearest(0, 0), 1);
        Check.due("nearest(1, 1)", x.nearest(1, 1), 0);
        Check.due("nearest(5, 5)", x.nearest(5, 5), 0);
        Check.due("nearest(2, 2)", x.nearest(2, 2), 0);
        Check.due("nearest(3, 0)", x.nearest(3, 0), 1);
        Check.due("nearest(5, 0)", x.nearest(5, 0), 1);
        // The farthest that there is.
        LostKeys y = Check.town("field 6 6;" + ROOMS + "lock c a b 5 5 0;");
        Check.due("nearest(0, 0), ten steps", y.nearest(0, 0), 0);
    }

    private static void nearestOfLike() {
        Check.of("NEAREST to a cell: the LOCK by fewest steps (X and Y) from there; of like ones the first.");
        LostKeys x = Check.town("field 3 3;" + ROOMS + "lock c a b 2 0 0;lock d a b 0 2 0;lock e a b 0 2 0;lock f a b 0 0 0 open;");
        Check.due("nearest(1, 1)", x.nearest(1, 1), 0);
        Check.due("nearest(0, 2)", x.nearest(0, 2), 1);
        Check.due("nearest(0, 1)", x.nearest(0, 1), 1);
        Check.due("nearest(1, 0)", x.nearest(1, 0), 0);
        Check.due("nearest(0, 0), that is open", x.nearest(0, 0), 3);
    }

    private static void drop() {
        Check.of("To DROP a KEY: why not: 1 the MAN does not have it");
        LostKeys x = Check.town("man m 1 1;man n 1 1;key k m 0;");
        String before = Check.seen(x);
        Check.due("drop(1, 0) of another's", x.drop(1, 0), 1);
        Check.due("all stays", Check.seen(x).equals(before), true);
        Check.due("drop(0, 0)", x.drop(0, 0), 0);
        before = Check.seen(x);
        Check.due("drop(0, 0) of one that lies", x.drop(0, 0), 1);
        Check.due("all stays", Check.seen(x).equals(before), true);
        x.pick(1, 0);
        Check.due("drop(0, 0) of one that was his", x.drop(0, 0), 1);
        Check.due("drop(1, 0)", x.drop(1, 0), 0);
    }

    private static void dropAnew() {
        Check.of("it lies in his cell, LAIN 0 DAYS");
        LostKeys x = Check.town(ROOMS + "lock c a b 0 0 63;man m 1 1;key k m 0;slow 3;");
        x.drop(0, 0);
        x.days(2);
        x.pick(0, 0);
        x.walk(0, 2, 1);
        x.drop(0, 0);
        Check.due("key(0, 2)", x.key(0, 2), 2);
        Check.due("key(0, 3)", x.key(0, 3), 1);
        Check.due("key(0, 5)", x.key(0, 5), 0);
        x.days(2);
        Check.due("key(0, 6) behind 2 and 2 DAYS", x.key(0, 6), 0);
        x.days(1);
        Check.due("key(0, 6) behind 3 DAYS", x.key(0, 6), 1);
    }

    private static void pick() {
        Check.of("To PICK it: 1 it does not lie in his cell: he has it.");
        LostKeys x = Check.town("man m 1 1;man n 1 2;man o 2 1;man p 1 1;key k m 0;");
        String before = Check.seen(x);
        Check.due("pick(0, 0) of his own", x.pick(0, 0), 1);
        Check.due("pick(3, 0) of one had in his cell", x.pick(3, 0), 1);
        Check.due("all stays", Check.seen(x).equals(before), true);
        x.drop(0, 0);
        before = Check.seen(x);
        Check.due("pick(1, 0) from the next Y", x.pick(1, 0), 1);
        Check.due("pick(2, 0) from the next X", x.pick(2, 0), 1);
        Check.due("all stays", Check.seen(x).equals(before), true);
        Check.due("pick(3, 0)", x.pick(3, 0), 0);
        Check.due("key(0, 1)", x.key(0, 1), 3);
        Check.due("pick(3, 0) again", x.pick(3, 0), 1);
    }

    private static void tryLeast() {
        Check.of("To TRY it at a LOCK: why not, the least: 1 he does not have it; 2 the LOCK is not in his cell; 3 it does not fit");
        LostKeys x = Check.town(ROOMS + "lock c a b 1 1 7;lock d a b 2 1 7;lock e a b 1 2 7;lock f a b 1 1 6;"
                + "man m 1 1;man n 1 1;key k m 7;key l m 5;");
        String before = Check.seen(x);
        Check.due("tries(1, 1, 1), all three", x.tries(1, 1, 1), 1);
        Check.due("tries(1, 1, 0), 1 and 3", x.tries(1, 1, 0), 1);
        Check.due("tries(1, 0, 1), 1 and 2", x.tries(1, 0, 1), 1);
        Check.due("tries(1, 0, 0), 1", x.tries(1, 0, 0), 1);
        Check.due("tries(0, 1, 1), 2 and 3", x.tries(0, 1, 1), 2);
        Check.due("tries(0, 0, 1), 2 by X", x.tries(0, 0, 1), 2);
        Check.due("tries(0, 0, 2), 2 by Y", x.tries(0, 0, 2), 2);
        Check.due("tries(0, 1, 0), 3", x.tries(0, 1, 0), 3);
        Check.due("tries(0, 0, 3), 3", x.tries(0, 0, 3), 3);
        Check.due("all stays", Check.seen(x).equals(before), true);
        x.drop(0, 0);
        Check.due("tries(0, 0, 0) of one that lies there", x.tries(0, 0, 0), 1);
        Check.due("undo() of the drop alone", x.undo(), 0);
    }

    private static void tryTurnsIt() {
        Check.of("the LOCK is shut, if it was open, and open, if it was shut");
        LostKeys x = Check.town(ROOMS + "lock c a b 1 1 7;lock d a b 1 1 7 open;man m 1 1;key k m 7;");
        int[] open = {3, 2, 3, 2};
        for (int i = 0; i < 4; i++) {
            Check.due("tries(0, 0, 0)", x.tries(0, 0, 0), 0);
            Check.due("now(2)", x.now(2), open[i]);
        }
        x.tries(0, 0, 1);
        Check.due("now(2)", x.now(2), 0);
        Check.due("now(4): none by a KEY that lay", x.now(4), 0);
    }

    private static void walkNext() {
        Check.of("To WALK: 1 the cell is not next to his (by X or Y)");
        for (int cell = 0; cell < 25; cell++) {
            LostKeys x = Check.town("man m 2 2;");
            int steps = Math.abs(cell % 5 - 2) + Math.abs(cell / 5 - 2);
            String before = Check.seen(x);
            Check.due("walk(0, " + cell % 5 + ", " + cell / 5 + ")", x.walk(0, cell % 5, cell / 5), steps == 1 ? 0 : 1);
            if (steps == 1) {
                Check.due("man(0, 0)", x.man(0, 0), cell % 5);
                Check.due("man(0, 1)", x.man(0, 1), cell / 5);
                x.undo();
            }
            Check.due("all stays", Check.seen(x).equals(before), true);
        }
    }

    private static void walkWithKeys() {
        Check.of("he is there, with all KEYS that he has");
        LostKeys x = Check.town("man m 2 2;man n 2 2;key k m 0;key l m 0;key o n 0;key p m 0;");
        x.drop(0, 1);
        x.walk(0, 2, 3);
        int[] ys = {3, 2, 2, 3};
        for (int k = 0; k < 4; k++) {
            Check.due("key(" + k + ", 2)", x.key(k, 2), 2);
            Check.due("key(" + k + ", 3)", x.key(k, 3), ys[k]);
        }
    }

    private static void dayLimits() {
        Check.of("A DAY (0 to 399; 400: all are over) goes");
        LostKeys x = Check.town("man m 0 0;key k m 0;");
        x.drop(0, 0);
        Check.due("now(0)", x.now(0), 0);
        Check.late(x, 399);
        Check.due("days(1) on the last", x.days(1), 1);
        Check.due("now(0)", x.now(0), 400);
        Check.due("key(0, 5)", x.key(0, 5), 400);
        String before = Check.seen(x);
        Check.due("days(1)", x.days(1), 0);
        Check.due("days(60)", x.days(60), 0);
        Check.due("drawn(60, 7)", x.drawn(60, 7), 0);
        Check.due("all stays", Check.seen(x).equals(before), true);
        // Acts need no DAY.
        Check.due("pick(0, 0)", x.pick(0, 0), 0);
        Check.due("walk(0, 1, 0)", x.walk(0, 1, 0), 0);
    }

    private static void slowDivides() {
        Check.of("it has LAIN a DAY more; if 'slow' divides that");
        for (int slow = 1; slow <= 9; slow++) {
            LostKeys x = Check.town(ROOMS + "lock c a b 0 0 63;man m 0 0;key k m 0;slow " + slow + ";");
            // By the DAYS that it has lain, not by the DAY.
            x.days(1);
            x.drop(0, 0);
            for (int day = 1; day <= 20; day++) {
                x.days(1);
                Check.due("key(0, 5) by slow " + slow, x.key(0, 5), day);
                Check.due("key(0, 6) by slow " + slow, x.key(0, 6), Math.min(6, day / slow));
            }
        }
    }

    private static void thereAreLocks() {
        Check.of("and there are LOCKS");
        LostKeys x = Check.town("room a;man m 0 0;key k m 21;slow 1;");
        x.drop(0, 0);
        Check.due("days(60)", x.days(60), 60);
        Check.due("key(0, 4)", x.key(0, 4), 21);
        Check.due("key(0, 5)", x.key(0, 5), 60);
        Check.due("key(0, 6)", x.key(0, 6), 0);
        Check.due("now(2)", x.now(2), 0);
        Check.due("now(3)", x.now(3), 0);
    }

    private static void lowestBit() {
        Check.of("if it does not fit the NEAREST one, the lowest bit in which their WARDS differ is changed (it TURNED once more)");
        // From 100110 to 011100: bits 1, 3, 4, 5 differ; both kinds of change come.
        LostKeys x = Check.town("field 6 2;" + ROOMS + "lock c a b 0 0 28;lock d a b 5 0 38;man m 0 0;key k m 38;slow 1;");
        x.drop(0, 0);
        int[] wards = {36, 44, 60, 28, 28};
        for (int i = 0; i < 5; i++) {
            x.days(1);
            Check.due("key(0, 4)", x.key(0, 4), wards[i]);
            Check.due("key(0, 6)", x.key(0, 6), Math.min(4, i + 1));
            Check.due("now(3)", x.now(3), Math.min(4, i + 1));
        }
        Check.due("now(2): the other one is not opened by it", x.now(2), 1);
    }

    private static void fitsThen() {
        Check.of("if it fits that one (then) and that one is shut, it is open.");
        // k fits by its last turn and opens on that very DAY; l fits from the first, and waits for the DAY that 'slow' divides.
        LostKeys x = Check.town("field 6 2;" + ROOMS + "lock c a b 0 0 1;lock d a b 5 0 7;lock e a b 5 0 7;man m 0 0;man n 5 0;key k m 0;key l n 7;slow 2;");
        x.drop(0, 0);
        x.drop(1, 1);
        x.days(1);
        Check.due("now(2)", x.now(2), 0);
        x.days(1);
        Check.due("now(2): not the one behind the NEAREST", x.now(2), 3);
        Check.due("now(4)", x.now(4), 2);
        x.days(2);
        Check.due("now(4): an open one is not opened", x.now(4), 2);
        x.pick(0, 0);
        x.tries(0, 0, 0);
        x.drop(0, 0);
        x.days(1);
        Check.due("now(2): shut", x.now(2), 2);
        x.days(1);
        Check.due("now(2): opened again", x.now(2), 3);
        Check.due("now(4)", x.now(4), 3);
    }

    private static void keyByKey() {
        Check.of("KEY by KEY that lies");
        LostKeys x = Check.town(ROOMS + "lock c a b 0 0 1;man m 0 0;key k m 1;key l m 1;key n m 0;key o m 0;slow 1;");
        x.drop(0, 1);
        x.drop(0, 2);
        x.days(1);
        Check.due("now(4): one of the two opened it", x.now(4), 1);
        Check.due("now(3)", x.now(3), 1);
        Check.due("key(0, 5) that he has", x.key(0, 5), 0);
        Check.due("key(3, 4) that he has", x.key(3, 4), 0);
        Check.due("key(1, 5)", x.key(1, 5), 1);
        Check.due("key(2, 5)", x.key(2, 5), 1);
    }

    private static void newTown() {
        Check.of("A new TOWN: DAY 0, KEYS had as told, LOCKS as told, no SENTENCE.");
        LostKeys x = Check.town(TownTest.SHOP);
        String before = Check.seen(x);
        x.drop(0, 0);
        x.days(4);
        x.walk(0, 1, 0);
        Check.tape(x, "lying");
        x.sentence();
        Check.due("said(-1)", x.said(-1), 1);
        Check.tape(x, TownTest.SHOP);
        Check.due("town()", x.town(), 13);
        Check.due("all is as at first", Check.seen(x).equals(before), true);
        Check.due("now(0)", x.now(0), 0);
        Check.due("now(1)", x.now(1), 0);
        Check.due("now(2)", x.now(2), 2);
        Check.due("now(3)", x.now(3), 0);
        Check.due("now(4)", x.now(4), 0);
        Check.due("key(0, 1)", x.key(0, 1), 0);
        Check.due("key(0, 4)", x.key(0, 4), 4);
        Check.due("said(-1)", x.said(-1), -1);
        Check.due("undo(): what was done was done in another TOWN", x.undo(), -1);
    }

    private static void throwsNothing() {
        Check.of("A call that throws changes nothing.");
        LostKeys x = Check.town(TownTest.SHOP);
        x.drop(0, 0);
        x.days(3);
        x.feed(1, 2, 3, 4, 5);
        String before = Check.seen(x);
        for (int wrong : new int[] {-1, 3, 8, Integer.MAX_VALUE, Integer.MIN_VALUE}) {
            Check.due("key(" + wrong + ", 0) throws", Check.throwsKey(x, wrong, 0), true);
            Check.due("man(" + wrong + ", 0) throws", Check.throwsMan(x, wrong, 0), true);
            Check.due("key(0, " + wrong + ") throws", Check.throwsKey(x, 0, wrong), wrong != 3);
            Check.due("man(0, " + wrong + ") throws", Check.throwsMan(x, 0, wrong), wrong != 3);
        }
        Check.due("all stays", Check.seen(x).equals(before), true);
        Check.due("undo()", x.undo(), 1);
        Check.due("undo()", x.undo(), 0);
    }
}
