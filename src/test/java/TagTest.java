/** Promises 30 (tag) and 31 (byteAt). */
public final class TagTest {
    public static void main(String[] args) {
        LostKeys x = Check.town("room a;room b;lock first a b 0 0 5;lock second a b 1 0 7;lock third a b 2 0 7;man abcdefg 3 4;man n 0 0;"
                + "key zyxwvut abcdefg 7;key k n 6;key l n 5;");
        Check.due("byteAt(0) ahead of any", x.byteAt(0), -1);
        dueTag(x, 0, "zyxwvut had by abcdefg fits second");
        dueTag(x, 1, "k had by n");
        dueTag(x, 2, "l had by n fits first");
        Check.due("tag(3)", x.tag(3), -1);
        Check.due("tag(-1)", x.tag(-1), -1);
        Check.due("byteAt(0) by the latest tag", x.byteAt(0), 'l');
        x.drop(0, 0);
        dueTag(x, 0, "zyxwvut lies at 3 4 fits second");
        x.drop(1, 1);
        x.walk(1, 1, 0);
        dueTag(x, 1, "k lies at 0 0");
        x.days(4);
        dueTag(x, 1, "k lies at 0 0 fits first");
        x.walk(1, 0, 0);
        x.pick(1, 1);
        dueTag(x, 1, "k had by n fits first");
        x.town();
        Check.due("byteAt(0) in another town", x.byteAt(0), 'k');
        dueTag(Check.town("field 6 6;room a;room b;lock lockabc a b 5 5 63;man manabcd 5 5;key keyabcd manabcd 63;"), 0,
                "keyabcd had by manabcd fits lockabc");
        Check.finish();
    }

    private static void dueTag(LostKeys x, int k, String want) {
        Check.due("tag(" + k + ") of " + want, x.tag(k), want.length());
        for (int i = 0; i < want.length(); i++) {
            Check.due("byteAt(" + i + ") of " + want, x.byteAt(i), want.charAt(i));
        }
        Check.due("byteAt() behind " + want, x.byteAt(want.length()), -1);
        Check.due("byteAt(-1)", x.byteAt(-1), -1);
    }
}
