import java.io.IOException;
import java.lang.reflect.Method;
import java.nio.file.Files;
import java.nio.file.Path;
import java.util.regex.Matcher;
import java.util.regex.Pattern;

/** The example of README.md: each call must answer what its comment begins with. */
public final class ReadmeTest {
    private static final Pattern CALL = Pattern.compile("x\\.(\\w+)\\((.*?)\\); +// (-?\\d+|true|false).*");

    private ReadmeTest() {
    }

    private static Method method(String name) {
        for (Method method : HillDrums.class.getMethods()) {
            if (method.getName().equals(name)) {
                return method;
            }
        }
        throw new IllegalArgumentException("README.md calls " + name);
    }

    private static Object[] arguments(String list) {
        String[] parts = list.isEmpty() ? new String[0] : list.split(", ");
        Object[] values = new Object[parts.length];
        for (int i = 0; i < parts.length; i++) {
            String part = parts[i];
            values[i] = part.matches("true|false") ? (Object) Boolean.valueOf(part) : (Object) Long.decode(part).intValue();
        }
        return values;
    }

    public static void main(String[] args) throws IOException, ReflectiveOperationException {
        HillDrums x = new HillDrums();
        int calls = 0;
        int lines = 0;
        for (String line : Files.readAllLines(Path.of("README.md"))) {
            Matcher m = CALL.matcher(line);
            lines += line.startsWith("x.") ? 1 : 0;
            if (m.matches()) {
                calls++;
                Object got = method(m.group(1)).invoke(x, arguments(m.group(2)));
                Check.due(line + " (" + got + ")", got.toString().equals(m.group(3)), true);
            }
        }
        Check.due("calls of README.md that are tried", calls, lines);
        Check.due("README.md has an example", calls >= 20, true);
        for (Method method : HillDrums.class.getMethods()) {
            boolean told = method.getDeclaringClass() != HillDrums.class
                || Files.readString(Path.of("README.md")).contains("`" + method.getName() + "`");
            Check.due("README.md names " + method.getName(), told, true);
        }
        Check.end();
    }
}
