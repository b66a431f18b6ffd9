import java.io.IOException;
import java.lang.reflect.Method;
import java.nio.file.Files;
import java.nio.file.Path;
import java.util.Arrays;
import java.util.regex.Matcher;
import java.util.regex.Pattern;

/** The README's calls answer what it says behind them. */
public final class ReadmeTest {
    private static final Pattern TEXT = Pattern.compile("put\\(x, \"(.*)\"\\);");
    private static final Pattern CALL = Pattern.compile("x\\.(\\w+)\\(([-0-9, ]*)\\); +// (-?\\w+)(:.*)?");

    public static void main(String[] args) throws IOException, ReflectiveOperationException {
        LostKeys x = null;
        int calls = 0;
        for (String line : Files.readAllLines(Path.of("README.md"))) {
            Matcher text = TEXT.matcher(line);
            Matcher call = CALL.matcher(line);
            if (line.equals("LostKeys x = new LostKeys();")) {
                x = new LostKeys();
            } else if (text.matches()) {
                Check.tape(x, text.group(1));
            } else if (call.matches()) {
                dueCall(x, call.group(1), call.group(2), call.group(3));
                calls++;
            } else {
                Check.due("a call that is told with its answer: " + line, line.startsWith("x."), false);
            }
        }
        Check.due("there are calls", calls > 20, true);
        Check.finish();
    }

    private static void dueCall(LostKeys x, String name, String arguments, String want) throws ReflectiveOperationException {
        Object[] values = arguments.isEmpty() ? new Object[0] : Arrays.stream(arguments.split(", ")).map(Integer::valueOf).toArray();
        for (Method method : LostKeys.class.getMethods()) {
            if (method.getName().equals(name) && method.getParameterCount() == values.length) {
                String got = String.valueOf(method.invoke(x, values));
                Check.due(name + "(" + arguments + ") answered " + got + ", README.md says " + want, got.equals(want), true);
                return;
            }
        }
        Check.due("there is a call " + name, false, true);
    }
}
