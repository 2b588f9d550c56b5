import java.io.IOException;
import java.lang.reflect.Method;
import java.lang.reflect.Modifier;
import java.nio.file.Files;
import java.nio.file.Path;
import java.util.regex.Matcher;
import java.util.regex.Pattern;

/** README.md's example answers as its lines tell, and its table names every call of the class. */
public final class ReadmeTest {
    private static final Pattern LINE = Pattern.compile("(?m)^f\\.(\\w+)\\((.*?)\\);\\s+// (-?\\d+): ");
    private static final Pattern ROW = Pattern.compile("(?m)^\\| `(\\w+)\\((.*?)\\)` \\|");

    private ReadmeTest() {
    }

    public static void main(String[] args) throws IOException, ReflectiveOperationException {
        String page = Files.readString(Path.of("README.md"));
        HouseFronts fronts = new HouseFronts();
        int lines = 0;
        for (Matcher line = LINE.matcher(page); line.find();) {
            Due.due(line.group(), answer(fronts, line.group(1), wordsOf(line.group(2))), Long.parseLong(line.group(3)));
            lines++;
        }
        Due.due("every line of the example is asked", lines, page.lines().filter(line -> line.startsWith("f.")).count());
        Due.due("there is an example", lines > 0 ? 1 : 0, 1);
        int rows = 0;
        for (Matcher row = ROW.matcher(page); row.find();) {
            Due.due(row.group() + " has its arguments", wordsOf(row.group(2)).length, find(row.group(1)).getParameterCount());
            rows++;
        }
        int calls = 0;
        for (Method method : HouseFronts.class.getDeclaredMethods()) {
            calls += Modifier.isPublic(method.getModifiers()) ? 1 : 0;
        }
        Due.due("rows of the table", rows, calls);
        Due.end("ReadmeTest");
    }

    private static long answer(HouseFronts fronts, String name, String[] words) throws ReflectiveOperationException {
        Method method = find(name);
        Object[] values = new Object[words.length];
        for (int i = 0; i < words.length; i++) {
            if (method.getParameterTypes()[i] == boolean.class) {
                values[i] = Boolean.valueOf(words[i]);
            } else {
                values[i] = Integer.valueOf(words[i]);
            }
        }
        return ((Number) method.invoke(fronts, values)).longValue();
    }

    private static String[] wordsOf(String arguments) {
        return arguments.isEmpty() ? new String[0] : arguments.split(", ");
    }

    private static Method find(String name) throws NoSuchMethodException {
        for (Method method : HouseFronts.class.getDeclaredMethods()) {
            if (method.getName().equals(name) && Modifier.isPublic(method.getModifiers())) {
                return method;
            }
        }
        throw new NoSuchMethodException(name);
    }
}
