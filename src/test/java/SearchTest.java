/** Promises 18 (fitting) to 29 (twin). */
public final class SearchTest {
    public static void main(String[] args) {
        fitting();
        losing();
        match();
        opens();
        way();
        found();
        tells();
        twins();
        Check.finish();
    }

    private static void fitting() {
        LostKeys x = Check.town("room a;room b;lock c a b 0 0 42;man m 0 0;key k m 21;key l m 42;slow 3;");
        Check.due("fitting(0) when had", x.fitting(0), -1);
        LostKeys quick = Check.town("room a;room b;lock c a b 0 0 3;man m 0 0;key k m 0;slow 1;");
        quick.drop(0, 0);
        Check.due("fitting(0) by 'slow' 1", quick.fitting(0), 2);
        Check.due("fitting(2)", x.fitting(2), -1);
        Check.due("fitting(-1)", x.fitting(-1), -1);
        x.drop(0, 0);
        x.drop(0, 1);
        for (int day = 0; day <= 18; day++) {
            Check.due("fitting(0) on day " + day, x.fitting(0), 18 - day);
            Check.due("fitting(1) on day " + day, x.fitting(1), 0);
            x.days(1);
        }
        Check.due("fitting(0) on day 19", x.fitting(0), 0);
        LostKeys y = Check.town("man m 0 0;key k m 21;");
        y.drop(0, 0);
        Check.due("fitting(0) without locks", y.fitting(0), -1);
        LostKeys z = Check.town("room a;room b;lock c a b 0 0 3;man m 0 0;key k m 0;slow 9;");
        Check.late(z, 381);
        z.drop(0, 0);
        Check.due("fitting(0) with 19 days left", z.fitting(0), 18);
        z.pick(0, 0);
        z.days(1);
        z.drop(0, 0);
        Check.due("fitting(0) with 18 days left", z.fitting(0), 18);
        z.pick(0, 0);
        z.days(1);
        z.drop(0, 0);
        Check.due("fitting(0) with 17 days left", z.fitting(0), -1);
        z.days(17);
        Check.due("fitting(0) with no days left", z.fitting(0), -1);
    }

    private static void losing() {
        LostKeys x = Check.town("field 5 3;room a;room b;lock c a b 4 2 7;lock d a b 1 1 7 open;lock e b a 4 2 6;man m 0 0;key k m 4;key l m 7;slow 4;");
        Check.due("lost(0) ahead of any", x.lost(0), -1);
        Check.due("losing(0, 2) that is never nearest", x.losing(0, 2), -1);
        Check.due("lost(0) ahead of any", x.lost(0), -1);
        Check.due("lost(1) ahead of any", x.lost(1), -1);
        Check.due("losing(0, 0)", x.losing(0, 0), 8);
        Check.due("lost(0) of a cell as near to the second lock", x.lost(0), 3);
        Check.due("lost(1)", x.lost(1), 0);
        Check.due("losing(1, 1) of an open lock that it fits", x.losing(1, 1), 4);
        Check.due("lost(0)", x.lost(0), 0);
        Check.due("lost(1)", x.lost(1), 0);
        Check.due("lost(2)", x.lost(2), -1);
        Check.due("lost(-1)", x.lost(-1), -1);
        Check.due("losing(2, 0)", x.losing(2, 0), -1);
        Check.due("losing(0, 3)", x.losing(0, 3), -1);
        Check.due("losing(-1, 0)", x.losing(-1, 0), -1);
        Check.due("losing(0, -1)", x.losing(0, -1), -1);
        Check.due("lost(0) behind NONE", x.lost(0), 0);
        x.drop(0, 0);
        x.days(3);
        Check.due("losing(0, 0) of one that has lain 3", x.losing(0, 0), 8);
        x.days(1);
        Check.due("losing(0, 0) of one that turned", x.losing(0, 0), 4);
        Check.late(x, 396);
        Check.due("losing(1, 1) with 4 days left", x.losing(1, 1), 4);
        x.days(1);
        Check.due("losing(1, 1) with 3 days left", x.losing(1, 1), -1);
    }

    private static void match() {
        LostKeys x = Check.town(TownTest.SHOP);
        Check.due("matched(0) ahead of any", x.matched(0), -1);
        Check.due("match()", x.match(), 3);
        Check.due("matched(0)", x.matched(0), 0);
        Check.due("matched(1)", x.matched(1), -1);
        Check.due("matched(2)", x.matched(2), 1);
        Check.due("matched(3)", x.matched(3), -1);
        Check.due("matched(-1)", x.matched(-1), -1);
        // Each LOCK's best KEY is the same one: the sum decides, then the least KEY for the first LOCK.
        LostKeys y = Check.town("room a;room b;lock c a b 0 0 0;lock d a b 0 0 1;man m 0 0;key k m 0;key l m 3;key n m 3;");
        Check.due("match()", y.match(), 1);
        Check.due("matched(0)", y.matched(0), 0);
        Check.due("matched(1)", y.matched(1), 1);
        LostKeys like = Check.town("room a;room b;lock c a b 0 0 0;lock d a b 0 0 0;man m 0 0;key k m 1;key l m 2;key n m 4;");
        Check.due("match() of like ones", like.match(), 2);
        Check.due("matched(0) of like ones", like.matched(0), 0);
        Check.due("matched(1) of like ones", like.matched(1), 1);
        LostKeys far = Check.town("room a;room b;lock c a b 0 0 0;lock d a b 0 0 1;man m 0 0;key k m 1;key l m 63;");
        Check.due("match() against the nearest", far.match(), 6);
        Check.due("matched(0)", far.matched(0), 0);
        Check.due("matched(1)", far.matched(1), 1);
        LostKeys few = Check.town("room a;room b;lock c a b 0 0 0;lock d a b 0 0 1;man m 0 0;key k m 1;");
        Check.due("match() of one key for two", few.match(), -1);
        few.drop(0, 0);
        few.days(2);
        Check.due("now(2)", few.now(2), 1);
        Check.due("match() of one key for one", few.match(), 1);
        Check.due("matched(1)", few.matched(1), 0);
        Check.due("matched(0)", few.matched(0), -1);
        few.undo();
        Check.due("match() of one key for two", few.match(), -1);
        Check.due("matched(1) by the latest that was not NONE", few.matched(1), 0);
        LostKeys full = Check.town("room a;room b;lock c a b 0 0 0;lock d a b 0 0 7;lock e a b 0 0 56;lock f a b 0 0 63;lock g a b 0 0 9;lock h a b 0 0 18;"
                + "man m 0 0;key ka m 18;key kb m 9;key kc m 63;key kd m 56;key ke m 7;key kf m 0;key kg m 32;key kh m 31;");
        Check.due("match() of 6 locks, 8 keys", full.match(), 0);
        for (int l = 0; l < 6; l++) {
            Check.due("matched(" + l + ")", full.matched(l), 5 - l);
        }
    }

    private static void opens() {
        LostKeys x = Check.town(TownTest.SHOP);
        x.drop(0, 0);
        Check.due("opens(0)", x.opens(0), 2);
        Check.due("opens(1)", x.opens(1), 2);
        Check.due("opens(2)", x.opens(2), 3);
        Check.due("opens(60)", x.opens(60), 3);
        Check.due("opens(61)", x.opens(61), -1);
        Check.due("opens(-1)", x.opens(-1), -1);
        Check.due("now(0)", x.now(0), 0);
        Check.due("key(0, 5)", x.key(0, 5), 0);
        x.pick(0, 0);
        Check.late(x, 399);
        x.drop(0, 0);
        Check.due("opens(60) with one day left", x.opens(60), 2);
    }

    private static void way() {
        LostKeys x = Check.town("room a;room b;room c;room d;room e;lock la a b 0 0 1 open;lock lb b c 0 0 1 open;lock lc a c 0 0 1;"
                + "lock ld c d 0 0 1 open;lock le d c 0 0 1 open;lock lf a c 4 4 1;man m 4 4;key k m 0;slow 1;");
        Check.due("wayAt(0) ahead of any", x.wayAt(0), -1);
        Check.due("way(0, 3, 0)", x.way(0, 3, 0), 3);
        Check.due("wayAt(0)", x.wayAt(0), 0);
        Check.due("wayAt(1)", x.wayAt(1), 1);
        Check.due("wayAt(2)", x.wayAt(2), 3);
        Check.due("wayAt(3)", x.wayAt(3), -1);
        Check.due("wayAt(-1)", x.wayAt(-1), -1);
        Check.due("way(3, 0, 0)", x.way(3, 0, 0), 3);
        Check.due("wayAt(0)", x.wayAt(0), 3);
        Check.due("wayAt(2)", x.wayAt(2), 0);
        Check.due("way(0, 4, 0)", x.way(0, 4, 0), -1);
        Check.due("wayAt(0) by the latest that was not NONE", x.wayAt(0), 3);
        Check.due("way(0, 5, 0)", x.way(0, 5, 0), -1);
        Check.due("way(5, 0, 0)", x.way(5, 0, 0), -1);
        Check.due("way(-1, 0, 0)", x.way(-1, 0, 0), -1);
        Check.due("way(0, -1, 0)", x.way(0, -1, 0), -1);
        Check.due("way(0, 0, 61)", x.way(0, 0, 61), -1);
        Check.due("way(0, 0, -1)", x.way(0, 0, -1), -1);
        x.drop(0, 0);
        Check.due("way(0, 3, 0)", x.way(0, 3, 0), 3);
        Check.due("way(0, 3, 1)", x.way(0, 3, 1), 2);
        Check.due("wayAt(0)", x.wayAt(0), 5);
        Check.due("wayAt(1)", x.wayAt(1), 3);
        Check.due("wayAt(2)", x.wayAt(2), -1);
        Check.due("way(4, 4, 60)", x.way(4, 4, 60), 0);
        Check.due("wayAt(0)", x.wayAt(0), -1);
        // Two ways of two LOCKS: the one whose first LOCK is least, though its second is not.
        LostKeys y = Check.town("room a;room b;room c;room d;lock la c d 0 0 1 open;lock lb a b 0 0 1 open;lock lc a c 0 0 1 open;lock ld b d 0 0 1 open;");
        Check.due("way(0, 3, 0)", y.way(0, 3, 0), 2);
        Check.due("wayAt(0)", y.wayAt(0), 1);
        Check.due("wayAt(1)", y.wayAt(1), 3);
        LostKeys chain = Check.town("room a;room b;room c;room d;room e;room f;lock la e f 0 0 1 open;lock lb d e 0 0 1 open;lock lc c d 0 0 1 open;"
                + "lock ld b c 0 0 1 open;lock le a b 0 0 1 open;");
        Check.due("way(0, 5, 0)", chain.way(0, 5, 0), 5);
        for (int i = 0; i < 5; i++) {
            Check.due("wayAt(" + i + ")", chain.wayAt(i), 4 - i);
        }
    }

    private static int found(LostKeys x, int... bytes) {
        byte[] b = new byte[bytes.length];
        for (int i = 0; i < b.length; i++) {
            b[i] = (byte) bytes[i];
        }
        Check.bytes(x, b);
        int answer = x.found();
        Check.due("bytes behind found()", x.count(7), 0);
        return answer;
    }

    private static void found() {
        LostKeys x = Check.town(TownTest.SHOP);
        Check.due("found() 0 0 4 0", found(x, 0, 0, 4, 0), 1);
        Check.due("found() 0 0 4 1", found(x, 0, 0, 4, 1), 1);
        Check.due("found() 0 0 5 2", found(x, 0, 0, 5, 2), 1);
        Check.due("found() 0 0 61 2", found(x, 0, 0, 61, 2), 2);
        Check.due("found() 0 0 5 4", found(x, 0, 0, 5, 4), 5);
        Check.due("found() 0 0 5 7", found(x, 0, 0, 5, 7), 5);
        Check.due("found() 0 0 5 255", found(x, 0, 0, 5, 255), 7);
        Check.due("found() 0 0 0 1", found(x, 0, 0, 0, 1), 0);
        Check.due("found() 3 2 63 0", found(x, 3, 2, 63, 0), 0);
        Check.due("found() 3 2 64 0", found(x, 3, 2, 64, 0), -1);
        Check.due("found() 3 2 255 0", found(x, 3, 2, 255, 0), -1);
        Check.due("found() 4 0 5 2", found(x, 4, 0, 5, 2), -1);
        Check.due("found() 0 3 5 2", found(x, 0, 3, 5, 2), -1);
        Check.due("found() 255 0 5 2", found(x, 255, 0, 5, 2), -1);
        Check.due("found() of 3 bytes", found(x, 0, 0, 5), -1);
        Check.due("found() of 5 bytes", found(x, 0, 0, 5, 2, 0), -1);
        Check.due("found() of none", found(x), -1);
        x.drop(0, 0);
        x.days(9);
        Check.due("found() by the wards told", found(x, 0, 0, 4, 0), 1);
        Check.due("found() without locks", found(Check.town("man m 0 0;key k m 4;"), 0, 0, 4, 0), -1);
        Check.due("found() without keys", found(Check.town("room a;room b;lock c a b 0 0 4;"), 0, 0, 4, 0), 0);
    }

    private static void tells() {
        LostKeys x = Check.town(TownTest.SHOP);
        Check.due("tells() ahead of any", x.tells(), -1);
        found(x, 0, 0, 5, 4);
        Check.due("tells() of two", x.tells(), 2);
        found(x, 0, 0, 5, 255);
        Check.due("tells() when all fit everywhere", x.tells(), 0);
        found(x, 0, 0, 5, 4);
        found(x, 0, 0, 0, 1);
        Check.due("tells() behind a found() of 0", x.tells(), 2);
        found(x, 9, 9, 9, 9);
        Check.due("tells() behind a found() of NONE", x.tells(), 2);
        x.town();
        Check.due("tells() in another town", x.tells(), 2);
        // Only by the second LOCK the two stay unlike.
        LostKeys y = Check.town("field 2 6;room a;room b;lock c a b 0 0 0;lock d a b 1 5 1;man m 0 0;key k m 1;key l m 2;slow 1;");
        Check.due("found()", found(y, 0, 0, 0, 1), 3);
        Check.due("tells()", y.tells(), 6 * 3 + 1);
    }

    private static void twins() {
        LostKeys x = Check.town(TownTest.SHOP);
        Check.due("twin(0) ahead of any", x.twin(0), -1);
        Check.due("twins()", x.twins(), 1);
        Check.due("twin(0)", x.twin(0), 0);
        Check.due("twin(1)", x.twin(1), 2);
        Check.due("twin(2)", x.twin(2), -1);
        Check.due("twin(-1)", x.twin(-1), -1);
        LostKeys y = Check.town("man m 0 0;key a m 0;key b m 63;key c m 60;key d m 3;key e m 12;");
        Check.due("twins() of like ones", y.twins(), 2);
        Check.due("twin(0)", y.twin(0), 0);
        Check.due("twin(1)", y.twin(1), 3);
        LostKeys z = Check.town("man m 0 0;key a m 0;key b m 63;key c m 63;");
        Check.due("twins() alike", z.twins(), 0);
        Check.due("twin(0)", z.twin(0), 1);
        Check.due("twin(1)", z.twin(1), 2);
        Check.tape(z, "man m 0 0;key a m 0;");
        z.town();
        Check.due("twins() of one", z.twins(), -1);
        Check.due("twin(1) by the latest that was not NONE", z.twin(1), 2);
        LostKeys now = Check.town("room a;room b;lock l a b 0 0 63;man m 0 0;key c m 0;key d m 1;key e m 31;slow 1;");
        now.drop(0, 1);
        now.days(3);
        Check.due("twins() by the wards now", now.twins(), 1);
        Check.due("twin(0)", now.twin(0), 1);
        Check.due("twin(1)", now.twin(1), 2);
    }
}
