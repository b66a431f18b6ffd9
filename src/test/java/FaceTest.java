import java.io.IOException;
import java.lang.reflect.Constructor;
import java.lang.reflect.Field;
import java.lang.reflect.Method;
import java.lang.reflect.Modifier;
import java.nio.file.Files;
import java.nio.file.Path;
import java.util.ArrayList;
import java.util.Arrays;
import java.util.List;
import java.util.Set;
import java.util.TreeSet;
import java.util.regex.Matcher;
import java.util.regex.Pattern;
import java.util.stream.Collectors;

/** The public face, and those rules of LANGUAGE.md that can be seen from outside or from the text. */
public final class FaceTest {
    private static final String FACE = "feed:IIIII:int end:I:boolean town::int fault::int lock:II:int key:II:int man:II:int now:I:int "
            + "drop:II:int pick:II:int tries:III:int walk:III:int days:I:int undo::int nearest:II:int off:II:int fitting:I:int "
            + "losing:II:int lost:I:int match::int matched:I:int opens:I:int way:III:int wayAt:I:int found::int tells::int twins::int "
            + "twin:I:int tag:I:int byteAt:I:int drawn:II:int odds:III:int book:I:int told:I:int sentence::int said:I:int "
            + "image:I:boolean restore:I:boolean count:I:int";
    private static final String[] BANNED = {"\\bcatch\\b", "\\btry\\b", "\\bfinally\\b", "\\bsynchronized\\b", "\\bassert\\b", "->", "::",
        "static\\s*\\{", "\\bpackage\\b", "\\bdouble\\b", "\\bfloat\\b", "\\bRandom\\b", "\\bThread\\b", "currentTimeMillis", "nanoTime",
        "hashCode", "\\binstanceof\\b", "Exact\\(", "while \\(true\\)", "for \\(;;\\)", "\" \\+", "\\+ \""};

    public static void main(String[] args) throws IOException {
        face();
        classes();
        text(Files.readString(Path.of("src/main/java/LostKeys.java")));
        Check.finish();
    }

    private static void face() {
        Set<String> want = new TreeSet<>(List.of(FACE.split(" ")));
        Set<String> got = new TreeSet<>();
        for (Method m : LostKeys.class.getDeclaredMethods()) {
            if (!Modifier.isPrivate(m.getModifiers())) {
                got.add(m.getName() + ":" + Check.repeat("I", m.getParameterCount()) + ":" + m.getReturnType());
                Check.due(m + " is public and of the object", Modifier.isPublic(m.getModifiers()) && !Modifier.isStatic(m.getModifiers()), true);
                Check.due(m + " takes ints", Arrays.stream(m.getParameterTypes()).allMatch(t -> t == int.class), true);
            }
        }
        Check.due("the methods are those of the face: " + got, got.equals(want), true);
        List<String> fields = Arrays.stream(LostKeys.class.getDeclaredFields())
                .filter(f -> !Modifier.isPrivate(f.getModifiers())).map(Field::getName).collect(Collectors.toList());
        Check.due("the fields are those of the face: " + fields, fields.equals(List.of("NONE")), true);
        Constructor<?>[] made = LostKeys.class.getDeclaredConstructors();
        Check.due("one constructor, public", made.length == 1 && Modifier.isPublic(made[0].getModifiers()) && made[0].getParameterCount() == 0, true);
        Check.due("the class is final", Modifier.isFinal(LostKeys.class.getModifiers()), true);
        Check.due("NONE", LostKeys.NONE, -1);
    }

    private static void classes() {
        Set<String> face = Arrays.stream(FACE.split(" ")).map(m -> m.split(":")[0]).collect(Collectors.toSet());
        List<Class<?>> all = new ArrayList<>(List.of(LostKeys.class.getDeclaredClasses()));
        Check.due("classes inside are static", all.stream().allMatch(c -> Modifier.isStatic(c.getModifiers())), true);
        all.add(LostKeys.class);
        Check.due("at most twelve classes", all.size() <= 12, true);
        for (Class<?> c : all) {
            long fields = Arrays.stream(c.getDeclaredFields()).filter(f -> !Modifier.isStatic(f.getModifiers())).count();
            Check.due("at most twenty fields in " + c, fields <= 20, true);
            for (Method m : c.getDeclaredMethods()) {
                boolean ofFace = c == LostKeys.class && Modifier.isPublic(m.getModifiers());
                Check.due(m + " bears a name of its own", ofFace || !face.contains(m.getName()), true);
                Check.due(m + " takes at most seven", m.getParameterCount() <= 7, true);
            }
        }
    }

    private static void text(String whole) {
        String text = whole.replaceAll("(?s)/\\*.*?\\*/", "").replaceAll("//[^\n]*", "");
        for (String banned : BANNED) {
            Matcher m = Pattern.compile(banned).matcher(text);
            Check.due("the source has no " + banned, m.find(), false);
        }
        List<String> imports = Pattern.compile("import [^;]*;").matcher(text).results().map(r -> r.group()).collect(Collectors.toList());
        Check.due("imports " + imports, Set.of("import java.util.Arrays;", "import java.util.NoSuchElementException;").containsAll(imports), true);
        Check.due("only NoSuchElementException is thrown",
                Pattern.compile("\\bthrow\\b(?! new NoSuchElementException\\(\\);)").matcher(text).find(), false);
        int began = -1;
        String[] lines = whole.split("\n");
        for (int i = 0; i < lines.length; i++) {
            if (lines[i].matches(" {4}( {4})?\\w.*\\) (throws \\w+ )?\\{")) {
                began = i;
            } else if (began >= 0 && lines[i].matches(" {4}( {4})?\\}") && lines[i].indexOf('}') == indent(lines[began])) {
                Check.due("at most sixty lines from line " + (began + 1), i - began < 60, true);
                began = -1;
            }
        }
    }

    private static int indent(String line) {
        return line.length() - line.stripLeading().length();
    }
}
