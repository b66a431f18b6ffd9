/** Promises 38 (image) and 39 (restore), and what stays when another town is told. */
public final class ImageTest {
    public static void main(String[] args) {
        places();
        whole();
        toldLast();
        anotherTown();
        Check.finish();
    }

    private static void places() {
        LostKeys x = new LostKeys();
        Check.due("restore(0) of nothing", x.restore(0), false);
        Check.due("image(-1)", x.image(-1), false);
        Check.due("image(2)", x.image(2), false);
        Check.due("image(1)", x.image(1), true);
        Check.due("restore(0) of nothing", x.restore(0), false);
        Check.due("restore(2)", x.restore(2), false);
        Check.due("restore(-1)", x.restore(-1), false);
        Check.due("restore(1)", x.restore(1), true);
    }

    private static void whole() {
        LostKeys x = Check.town(TownTest.SHOP);
        x.drop(0, 0);
        x.days(2);
        Check.tape(x, "number=2");
        x.sentence();
        x.image(0);
        Check.tape(x, "field 2 2;man z 1 1;key y z 9;slow 5;");
        x.town();
        x.image(1);
        x.walk(0, 0, 1);
        x.feed(0, 0, 0, 0, 0);
        Check.due("restore(0)", x.restore(0), true);
        Check.due("the tape stays", x.count(7), 20);
        Check.due("undo() behind restore()", x.undo(), -1);
        Check.due("count(4)", x.count(4), 4);
        Check.due("count(6)", x.count(6), 2);
        Check.due("count(3)", x.count(3), 3);
        Check.due("now(0)", x.now(0), 2);
        Check.due("now(1)", x.now(1), 1);
        Check.due("now(2)", x.now(2), 3);
        Check.due("now(3)", x.now(3), 1);
        Check.due("now(4)", x.now(4), 1);
        Check.due("key(0, 5)", x.key(0, 5), 2);
        Check.due("key(0, 6)", x.key(0, 6), 1);
        Check.due("lock(2, 4)", x.lock(2, 4), 63);
        Check.due("nearest(3, 1)", x.nearest(3, 1), 1);
        Check.due("said(0)", x.said(0), 2);
        Check.due("tag(2)", x.tag(2), "tin had by bob fits vault".length());
        x.days(7);
        Check.due("restore(0) again", x.restore(0), true);
        Check.due("now(0)", x.now(0), 2);
        Check.due("restore(1)", x.restore(1), true);
        Check.due("count(4)", x.count(4), 2);
        Check.due("count(6)", x.count(6), 5);
        Check.due("man(0, 0)", x.man(0, 0), 1);
        Check.due("man(0, 1)", x.man(0, 1), 1);
        Check.due("said(-1)", x.said(-1), -1);
        Check.due("tag(0)", x.tag(0), "y had by z".length());
        x.image(0);
        Check.due("restore(0) kept anew", x.restore(0), true);
        Check.due("count(3)", x.count(3), 1);
        x.days(1);
        x.image(0);
        Check.due("undo() behind image()", x.undo(), 0);
    }

    private static void toldLast() {
        LostKeys x = new LostKeys();
        x.image(0);
        Check.tape(x, TownTest.SHOP);
        x.town();
        x.losing(1, 2);
        x.match();
        x.way(1, 2, 0);
        x.feed(0x00000504, 0, 0, 0, 0);
        x.end(4);
        x.found();
        x.twins();
        x.tag(0);
        Check.tape(x, "day 7;");
        x.book(0);
        Check.tape(x, "ward<");
        x.sentence();
        x.restore(0);
        Check.due("lost(0) stays", x.lost(0), 2);
        Check.due("matched(2) stays", x.matched(2), 1);
        Check.due("wayAt(0) stays", x.wayAt(0), 1);
        Check.due("tells() stays", x.tells(), 2);
        Check.due("twin(1) stays", x.twin(1), 2);
        Check.due("byteAt(0) stays", x.byteAt(0), 'b');
        Check.due("told(2) stays", x.told(2), 7);
        Check.due("fault() stays", x.fault(), 1);
    }

    private static final String FULL = "slow 1;field 6 5;room a;room b;room c;room d;room e;room f;"
            + "lock la f e 5 4 1 open;lock lb e d 4 3 2 open;lock lc d c 3 2 3 open;lock ld c b 2 1 4 open;lock le b a 1 0 5 open;lock lf a f 0 4 6;"
            + "man m 5 4;man n 4 3;man o 3 2;man p 2 1;man q 1 0;"
            + "key ka q 7;key kb p 8;key kc o 9;key kd n 10;key ke m 11;key kf q 12;key kg p 13;key kh o 14;";

    /** A TOWN that is told, or restored, behind another one is as it is by itself. */
    private static void anotherTown() {
        dueSame(behindOthers(1), Check.town(TownTest.SHOP));
        dueSame(behindOthers(2), Check.town(FULL));
        dueSame(behindOthers(3), Check.town(TownTest.SHOP));
        LostKeys full = Check.town(FULL);
        liveInFull(full);
        dueSame(behindOthers(4), full);
        dueSame(behindOthers(5), new LostKeys());
    }

    /** The same object each time, as far as that step. */
    private static LostKeys behindOthers(int steps) {
        LostKeys x = Check.town(FULL);
        liveInFull(x);
        x.image(0);
        Check.tape(x, TownTest.SHOP);
        x.town();
        if (steps > 1) {
            x.drawn(9, 3);
            x.undo();
            x.image(1);
            Check.tape(x, FULL);
            x.town();
        }
        if (steps > 2) {
            x.drawn(9, 3);
            x.restore(1);
        }
        if (steps > 3) {
            x.drawn(9, 3);
            x.restore(0);
        }
        if (steps > 4) {
            x.town();
        }
        return x;
    }

    private static void liveInFull(LostKeys x) {
        x.drop(0, 4);
        x.drop(4, 0);
        x.days(3);
        x.walk(1, 4, 2);
        x.pick(4, 0);
        Check.tape(x, "ward>9 and not near ld or had q");
        x.sentence();
    }

    /** All that can be seen of the two is alike. */
    private static void dueSame(LostKeys x, LostKeys want) {
        for (int what = 0; what < 7; what++) {
            Check.due("count(" + what + ")", x.count(what), want.count(what));
        }
        for (int what = 0; what < 5; what++) {
            Check.due("now(" + what + ")", x.now(what), want.now(what));
        }
        for (int what = 0; what < 8; what++) {
            for (int i = 0; i < 6; i++) {
                Check.due("lock(" + i + ", " + what + ")", x.lock(i, what), want.lock(i, what));
            }
            for (int k = 0; k < want.count(3); k++) {
                Check.due("key(" + k + ", " + what + ")", x.key(k, what), want.key(k, what));
            }
            for (int m = 0; m < want.count(2) && what < 4; m++) {
                Check.due("man(" + m + ", " + what + ")", x.man(m, what), want.man(m, what));
            }
        }
        for (int cell = 0; cell < 36; cell++) {
            Check.due("nearest() to " + cell, x.nearest(cell % 6, cell / 6), want.nearest(cell % 6, cell / 6));
        }
        for (int k = 0; k < want.count(3); k += 2) {
            Check.due("tag(" + k + ")", x.tag(k), want.tag(k));
            for (int i = 0; i < 36; i++) {
                Check.due("byteAt(" + i + ") of tag " + k, x.byteAt(i), want.byteAt(i));
            }
        }
        for (int k = -1; k < 8; k++) {
            Check.due("said(" + k + ")", x.said(k), want.said(k));
        }
        Check.due("way(0, 2, 0)", x.way(0, 2, 0), want.way(0, 2, 0));
        Check.due("opens(60)", x.opens(60), want.opens(60));
        Check.due("drawn(60, 5)", x.drawn(60, 5), want.drawn(60, 5));
        Check.due("now(2) behind draws", x.now(2), want.now(2));
        Check.due("now(3) behind draws", x.now(3), want.now(3));
        x.undo();
        want.undo();
        Check.bytes(x, new byte[] {1, 1, 4, 3});
        Check.bytes(want, new byte[] {1, 1, 4, 3});
        Check.due("found()", x.found(), want.found());
    }
}
