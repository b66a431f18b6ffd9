/** Promises 34 (book) and 35 (told). */
public final class BookTest {
    public static void main(String[] args) {
        faults();
        tooLong();
        judged();
        lived();
        daysLeft();
        Check.finish();
    }

    private static void faults() {
        LostKeys x = Check.town(TownTest.SHOP);
        Check.dueBook(x, 0, "", -1, 0);
        Check.dueBook(x, 0, ";", -2, 1);
        Check.dueBook(x, 0, "ann", -2 - 3, 1);
        Check.dueBook(x, 0, "ann drops", -2 - 9, 1);
        Check.dueBook(x, 0, "ann drops brass", -2 - 15, 1);
        Check.dueBook(x, 0, "ann day brass;", -2 - 4, 1);
        Check.dueBook(x, 0, "ann brass;", -2 - 4, 1);
        Check.dueBook(x, 0, "drops brass;", -2, 1);
        Check.dueBook(x, 0, "room;", -2, 1);
        Check.dueBook(x, 0, "7;", -2, 1);
        Check.dueBook(x, 0, "eve drops brass;", -2, 3);
        Check.dueBook(x, 0, "brass drops brass;", -2, 3);
        Check.dueBook(x, 0, "ann drops key;", -2 - 10, 1);
        Check.dueBook(x, 0, "ann drops gold;", -2 - 10, 3);
        Check.dueBook(x, 0, "ann picks bob;", -2 - 10, 3);
        Check.dueBook(x, 0, "ann tries brass;", -2 - 15, 1);
        Check.dueBook(x, 0, "ann tries brass bank;", -2 - 16, 3);
        Check.dueBook(x, 0, "ann tries drain brass;", -2 - 10, 3);
        Check.dueBook(x, 0, "ann walks 6 0;", -2 - 10, 2);
        Check.dueBook(x, 0, "ann walks 0 6;", -2 - 12, 2);
        Check.dueBook(x, 0, "ann walks 0;", -2 - 11, 1);
        Check.dueBook(x, 0, "day 0;", -2 - 4, 2);
        Check.dueBook(x, 0, "day 61;", -2 - 4, 2);
        Check.dueBook(x, 0, "day ann;", -2 - 4, 1);
        Check.dueBook(x, 0, "day 60;", -1, 0);
        Check.tape(x, "day 0;");
        x.book(0);
        Check.tape(x, "day 1;");
        Check.due("book(2)", x.book(2), -1000);
        Check.due("book(-1)", x.book(-1), -1000);
        Check.due("fault() behind -1000", x.fault(), 2);
        Check.due("bytes behind -1000", x.count(7), 6);
        Check.due("told(2) behind -1000", x.told(2), 60);
        Check.due("book(0)", x.book(0), -1);
        Check.due("fault()", x.fault(), 0);
    }

    private static void tooLong() {
        LostKeys x = Check.town(TownTest.SHOP);
        Check.dueBook(x, 0, Check.repeat("day 1;", 40), -1, 0);
        Check.due("told(1) of 40 lines", x.told(1), 40);
        Check.due("told(2) of 40 days", x.told(2), 40);
        Check.dueBook(x, 0, Check.repeat("day 1;", 41), -2 - 240, 4);
        Check.dueBook(x, 0, Check.repeat("day 1;", 40) + "ann drops brass;", -2 - 240, 4);
        Check.dueBook(x, 0, Check.repeat("day 1;", 40) + "eve drops brass;", -2 - 240, 3);
        Check.dueBook(x, 0, Check.repeat("day 1;", 40) + "drops brass;", -2 - 240, 1);
        Check.dueBook(x, 0, Check.repeat("day 1;", 40) + "  ", -1, 0);
        Check.dueBook(x, 0, "day 1;" + Check.repeat(" ", 394), -1, 0);
        Check.dueBook(x, 0, "day 1;" + Check.repeat(" ", 395), -2 - 400, 1);
        Check.dueBook(x, 0, "day 1" + Check.repeat(" ", 394) + ";", -1, 0);
        Check.dueBook(x, 0, "day 1" + Check.repeat(" ", 395) + ";", -2 - 400, 1);
        Check.dueBook(x, 0, "day" + Check.repeat(" ", 396) + "61;", -2 - 399, 2);
        Check.dueBook(x, 0, "eve" + Check.repeat(" ", 500), -2, 3);
    }

    private static void dueTold(LostKeys x, int why, int lines, int day, int open) {
        Check.due("told(0)", x.told(0), why);
        Check.due("told(1)", x.told(1), lines);
        Check.due("told(2)", x.told(2), day);
        Check.due("told(3)", x.told(3), open);
    }

    private static void judged() {
        LostKeys x = Check.town(TownTest.SHOP);
        dueTold(x, -1, -1, -1, -1);
        Check.dueBook(x, 0, "ann drops brass;day 2;ann picks brass;ann tries brass drain;ann walks 1 0;", -1, 0);
        dueTold(x, 0, 5, 2, 2);
        Check.due("told(4)", x.told(4), -1);
        Check.due("told(-1)", x.told(-1), -1);
        Check.due("now(0) when judged", x.now(0), 0);
        Check.due("key(0, 4) when judged", x.key(0, 4), 4);
        Check.due("man(0, 0) when judged", x.man(0, 0), 0);
        Check.dueBook(x, 0, "ann drops brass;day 2;day 0;", -2 - 26, 2);
        dueTold(x, 0, 5, 2, 2);
        Check.dueBook(x, 0, "bob drops brass;", 0, 0);
        dueTold(x, 1, 0, 0, 2);
        Check.dueBook(x, 0, "ann drops brass;day 3;ann drops brass;day 9;", 2, 0);
        dueTold(x, 1, 2, 3, 3);
        Check.dueBook(x, 0, "day 1;ann picks brass;", 1, 0);
        dueTold(x, 11, 1, 1, 2);
        Check.dueBook(x, 0, "bob tries brass drain;", 0, 0);
        dueTold(x, 21, 0, 0, 2);
        Check.dueBook(x, 0, "ann tries brass vault;", 0, 0);
        dueTold(x, 22, 0, 0, 2);
        Check.dueBook(x, 0, "ann tries brass drain;", 0, 0);
        dueTold(x, 23, 0, 0, 2);
        Check.dueBook(x, 0, "ann walks 1 1;", 0, 0);
        dueTold(x, 31, 0, 0, 2);
        Check.dueBook(x, 0, "bob walks 2 3;", 0, 0);
        dueTold(x, 39, 0, 0, 2);
        Check.dueBook(x, 0, "bob walks 5 5;", 0, 0);
        dueTold(x, 39, 0, 0, 2);
        Check.dueBook(x, 0, "bob walks 3 2;bob tries tin vault;bob tries tin vault;bob tries tin vault;", -1, 0);
        dueTold(x, 0, 4, 0, 0);
    }

    private static void lived() {
        LostKeys x = Check.town(TownTest.SHOP);
        Check.dueBook(x, 1, "ann drops brass;day 2;ann walks 0 1;ann walks 3 3;ann walks 0 2;", 3, 0);
        dueTold(x, 39, 3, 2, 3);
        Check.due("now(0)", x.now(0), 2);
        Check.due("now(1)", x.now(1), 1);
        Check.due("now(2)", x.now(2), 3);
        Check.due("man(0, 1)", x.man(0, 1), 1);
        Check.dueBook(x, 1, "day 1;day", -2 - 9, 1);
        Check.due("now(0) behind a fault", x.now(0), 2);
        Check.due("undo()", x.undo(), 0);
        Check.due("now(0)", x.now(0), 0);
        Check.due("now(2)", x.now(2), 2);
        Check.dueBook(x, 1, "bob drops brass;", 0, 0);
        Check.due("undo() of a book wrong at once", x.undo(), 0);
    }

    private static void daysLeft() {
        LostKeys x = Check.town("man m 0 0;");
        Check.dueBook(x, 1, Check.repeat("day 60;", 6) + "day 41;", 6, 0);
        dueTold(x, 41, 6, 360, 0);
        Check.due("now(0)", x.now(0), 360);
        Check.dueBook(x, 1, "day 40;day 1;", 1, 0);
        dueTold(x, 41, 1, 400, 0);
        Check.due("now(0)", x.now(0), 400);
    }
}
