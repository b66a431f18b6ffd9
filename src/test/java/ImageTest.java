/** Promises 38 (image) and 39 (restore), and what stays when another town is told. */
public final class ImageTest {
    public static void main(String[] args) {
        places();
        whole();
        toldLast();
        Check.finish();
    }

    private static void places() {
        LostKeys x = new LostKeys();
        Check.due("restore(0) of nothing", x.restore(0), false);
        Check.due("image(-1)", x.image(-1), false);
        Check.due("image(2)", x.image(2), false);
        Check.due("image(1)", x.image(1), true);
        Check.due("restore(0) of nothing", x.restore(0), false);
        Check.due("restore(2)", x.restore(2), false);
        Check.due("restore(-1)", x.restore(-1), false);
        Check.due("restore(1)", x.restore(1), true);
    }

    private static void whole() {
        LostKeys x = Check.town(TownTest.SHOP);
        x.drop(0, 0);
        x.days(2);
        Check.tape(x, "number=2");
        x.sentence();
        x.image(0);
        Check.tape(x, "field 2 2;man z 1 1;key y z 9;slow 5;");
        x.town();
        x.image(1);
        x.walk(0, 0, 1);
        x.feed(0, 0, 0, 0, 0);
        Check.due("restore(0)", x.restore(0), true);
        Check.due("the tape stays", x.count(7), 20);
        Check.due("undo() behind restore()", x.undo(), -1);
        Check.due("count(4)", x.count(4), 4);
        Check.due("count(6)", x.count(6), 2);
        Check.due("count(3)", x.count(3), 3);
        Check.due("now(0)", x.now(0), 2);
        Check.due("now(1)", x.now(1), 1);
        Check.due("now(2)", x.now(2), 3);
        Check.due("now(3)", x.now(3), 1);
        Check.due("now(4)", x.now(4), 1);
        Check.due("key(0, 5)", x.key(0, 5), 2);
        Check.due("key(0, 6)", x.key(0, 6), 1);
        Check.due("lock(2, 4)", x.lock(2, 4), 63);
        Check.due("nearest(3, 1)", x.nearest(3, 1), 1);
        Check.due("said(0)", x.said(0), 2);
        Check.due("tag(2)", x.tag(2), "tin had by bob fits vault".length());
        x.days(7);
        Check.due("restore(0) again", x.restore(0), true);
        Check.due("now(0)", x.now(0), 2);
        Check.due("restore(1)", x.restore(1), true);
        Check.due("count(4)", x.count(4), 2);
        Check.due("count(6)", x.count(6), 5);
        Check.due("man(0, 0)", x.man(0, 0), 1);
        Check.due("man(0, 1)", x.man(0, 1), 1);
        Check.due("said(-1)", x.said(-1), -1);
        Check.due("tag(0)", x.tag(0), "y had by z".length());
        x.image(0);
        Check.due("restore(0) kept anew", x.restore(0), true);
        Check.due("count(3)", x.count(3), 1);
        x.days(1);
        x.image(0);
        Check.due("undo() behind image()", x.undo(), 0);
    }

    private static void toldLast() {
        LostKeys x = new LostKeys();
        x.image(0);
        Check.tape(x, TownTest.SHOP);
        x.town();
        x.losing(1, 2);
        x.match();
        x.way(1, 2, 0);
        x.feed(0x00000504, 0, 0, 0, 0);
        x.end(4);
        x.found();
        x.twins();
        x.tag(0);
        Check.tape(x, "day 7;");
        x.book(0);
        Check.tape(x, "ward<");
        x.sentence();
        x.restore(0);
        Check.due("lost(0) stays", x.lost(0), 2);
        Check.due("matched(2) stays", x.matched(2), 1);
        Check.due("wayAt(0) stays", x.wayAt(0), 1);
        Check.due("tells() stays", x.tells(), 2);
        Check.due("twin(1) stays", x.twin(1), 2);
        Check.due("byteAt(0) stays", x.byteAt(0), 'b');
        Check.due("told(2) stays", x.told(2), 7);
        Check.due("fault() stays", x.fault(), 1);
    }
}
