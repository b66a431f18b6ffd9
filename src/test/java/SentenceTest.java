/** Promises 36 (sentence) and 37 (said). */
public final class SentenceTest {
    public static void main(String[] args) {
        faults();
        most();
        said();
        stays();
        Check.finish();
    }

    private static void faults() {
        LostKeys x = Check.town(TownTest.SHOP);
        Check.dueSentence(x, "", -1, 1);
        Check.dueSentence(x, "  ", -1 - 2, 1);
        Check.dueSentence(x, "lying lying", -1 - 6, 1);
        Check.dueSentence(x, "lying;", -1 - 5, 1);
        Check.dueSentence(x, "lying and", -1 - 9, 1);
        Check.dueSentence(x, "lying or or", -1 - 9, 1);
        Check.dueSentence(x, "and lying", -1, 1);
        Check.dueSentence(x, "not", -1 - 3, 1);
        Check.dueSentence(x, "()", -1 - 1, 1);
        Check.dueSentence(x, "(lying", -1 - 6, 1);
        Check.dueSentence(x, "lying)", -1 - 5, 1);
        Check.dueSentence(x, "ann", -1, 1);
        Check.dueSentence(x, "7", -1, 1);
        Check.dueSentence(x, "of", -1 - 2, 1);
        Check.dueSentence(x, "of 7", -1 - 3, 1);
        Check.dueSentence(x, "of lying", -1 - 3, 1);
        Check.dueSentence(x, "of eve", -1 - 3, 3);
        Check.dueSentence(x, "of brass", -1 - 3, 3);
        Check.dueSentence(x, "had drain", -1 - 4, 3);
        Check.dueSentence(x, "fits ann", -1 - 5, 3);
        Check.dueSentence(x, "near shop", -1 - 5, 3);
        Check.dueSentence(x, "ward 7", -1 - 5, 1);
        Check.dueSentence(x, "ward < ann", -1 - 7, 1);
        Check.dueSentence(x, "ward ( 7", -1 - 5, 1);
        Check.dueSentence(x, "ward < 1000", -1 - 7, 1);
        Check.dueSentence(x, "ward<=7", -1 - 5, 1);
        Check.dueSentence(x, "ward<999", 1, 0);
        Check.dueSentence(x, "lying" + Check.repeat(" ", 195), 1, 0);
        Check.dueSentence(x, "lying" + Check.repeat(" ", 196), -1 - 200, 1);
        Check.dueSentence(x, "ward" + Check.repeat(" ", 194) + "<999", -1 - 200, 1);
        Check.dueSentence(x, "ward<" + Check.repeat(" ", 194) + "1000", -1 - 199, 1);
        Check.dueSentence(x, "lying lying" + Check.repeat(" ", 194), -1 - 6, 1);
    }

    private static void most() {
        LostKeys x = Check.town(TownTest.SHOP);
        Check.dueSentence(x, Check.repeat("lying or ", 19) + "lying", 20, 0);
        Check.dueSentence(x, Check.repeat("lying or ", 20) + "lying", -1 - 180, 4);
        Check.dueSentence(x, Check.repeat("lying or ", 20) + "ann", -1 - 180, 1);
        Check.dueSentence(x, Check.repeat("lying and ", 19) + "lying", 20, 0);
        Check.dueSentence(x, Check.repeat("not lying or ", 9) + "not lying", 20, 0);
        Check.dueSentence(x, Check.repeat("not lying or ", 10) + "lying", -1 - 130, 4);
        Check.dueSentence(x, Check.repeat("not ", 7) + "lying", 8, 0);
        Check.dueSentence(x, Check.repeat("not ", 8) + "lying", -1 - 32, 4);
        Check.dueSentence(x, Check.repeat("not ", 8) + "ann", -1 - 32, 1);
        Check.dueSentence(x, Check.repeat("(", 7) + "lying" + Check.repeat(")", 7), 8, 0);
        Check.dueSentence(x, Check.repeat("(", 8) + "lying" + Check.repeat(")", 8), -1 - 8, 4);
        Check.dueSentence(x, Check.repeat("(", 7) + "lying or lying" + Check.repeat(")", 7) + "and (lying)", 11, 0);
        Check.dueSentence(x, Check.repeat("(", 7) + "lying or not lying" + Check.repeat(")", 7), -1 - 20, 4);
    }

    private static void dueSaid(LostKeys x, String text, int... keys) {
        Check.tape(x, text);
        Check.due("sentence() of \"" + text + "\" is sound", x.sentence() > 0, true);
        Check.due("said(-1) of \"" + text + "\"", x.said(-1), keys.length);
        for (int i = 0; i < keys.length; i++) {
            Check.due("said(" + i + ") of \"" + text + "\"", x.said(i), keys[i]);
        }
        Check.due("said() behind the last of \"" + text + "\"", x.said(keys.length), -1);
        Check.due("said(-2) of \"" + text + "\"", x.said(-2), -1);
    }

    private static void said() {
        LostKeys x = Check.town("field 6 6;room a;room b;lock la a b 0 0 7;lock lb a b 5 5 9;man m 0 0;man n 5 5;"
                + "key ka m 6;key kb m 9;key kc n 9;key kd n 8;slow 1;");
        x.drop(0, 0);
        x.drop(1, 2);
        x.days(1);
        x.walk(0, 1, 0);
        // ka lies at 0 0 with 7, turned once; kb is had at 1 0 with 9; kc lies at 5 5 with 9; kd is had at 5 5 with 8.
        dueSaid(x, "lying", 0, 2);
        dueSaid(x, "not lying", 1, 3);
        dueSaid(x, "of m", 0, 1);
        dueSaid(x, "had m", 1);
        dueSaid(x, "had n", 3);
        dueSaid(x, "fits la", 0);
        dueSaid(x, "fits lb", 1, 2);
        dueSaid(x, "near la", 0, 1);
        dueSaid(x, "near lb", 2, 3);
        dueSaid(x, "ward<9", 0, 3);
        dueSaid(x, "ward=9", 1, 2);
        dueSaid(x, "ward>8", 1, 2);
        dueSaid(x, "lain=1", 0, 2);
        dueSaid(x, "lain<1", 1, 3);
        dueSaid(x, "turned=1", 0);
        dueSaid(x, "turned>0", 0);
        dueSaid(x, "number>1", 2, 3);
        dueSaid(x, "number=002", 2);
        dueSaid(x, "number<0");
        dueSaid(x, "number=0 or number=1 and number=2", 0);
        dueSaid(x, "(number=0 or number=1) and number=1", 1);
        dueSaid(x, "number=1 and number=2 or number=3", 3);
        dueSaid(x, "not number=1 and number<3", 0, 2);
        dueSaid(x, "not(number=1 or number=3)", 0, 2);
        dueSaid(x, "not not lying", 0, 2);
        dueSaid(x, "number<4", 0, 1, 2, 3);
        Check.tape(x, "lying");
        x.sentence();
        x.pick(1, 2);
        Check.due("said(-1) by what is so now", x.said(-1), 1);
        Check.due("said(1)", x.said(1), -1);
        Check.due("said() without keys", noKeys(), 0);
    }

    private static int noKeys() {
        LostKeys x = new LostKeys();
        Check.tape(x, "not lying");
        Check.due("sentence() of an empty town", x.sentence(), 2);
        return x.said(-1);
    }

    private static void stays() {
        LostKeys x = Check.town(TownTest.SHOP);
        Check.due("said(-1) ahead of any", x.said(-1), -1);
        Check.due("said(0) ahead of any", x.said(0), -1);
        Check.tape(x, "number=1");
        x.sentence();
        Check.tape(x, "lying or");
        Check.due("sentence() with a fault", x.sentence(), -1 - 8);
        Check.due("said(0) stays", x.said(0), 1);
        x.drop(0, 0);
        x.undo();
        Check.due("said(0) stays behind undo()", x.said(0), 1);
    }
}
