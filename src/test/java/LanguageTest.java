import java.io.IOException;
import java.lang.reflect.Field;
import java.lang.reflect.Method;
import java.lang.reflect.Modifier;
import java.nio.file.Files;
import java.nio.file.Path;
import java.util.Arrays;
import java.util.List;
import java.util.Set;
import java.util.TreeSet;
import java.util.regex.Matcher;
import java.util.regex.Pattern;

/** What can be seen of LANGUAGE.md by looking at the source's words and at the class's members. */
public final class LanguageTest {
    private static final List<String> FORBIDDEN = List.of("\\bthrow\\b", "\\btry\\b", "\\bcatch\\b", "\\bsynchronized\\b",
            "\\bassert\\b", "->", "::", "Exact\\b", "\\bpackage\\b", "\\bSystem\\.(?!arraycopy)", "\\bObject\\b", "\\bMap\\b",
            "\\bhashCode\\b", "\\bstatic\\s*\\{", "\\bprotected\\b", "\\bThread\\b", "\\bRandom\\b", "\\bnull\\b", "\\bvar\\b",
            "import (?!java\\.util\\.Arrays;)");
    private static final Set<String> FACE = new TreeSet<>(List.of("fill", "part", "split", "repeat", "only", "clear", "rule",
            "holds", "piece", "draw", "at", "step", "drawn", "fault", "take", "ways", "least", "board", "put", "parses",
            "best", "bestStep", "stands", "count"));
    private static final Set<String> CONSTANTS = Set.of("UNKNOWN", "OUTSIDE", "STATE", "FULL", "NONE", "ENDLESS");

    private LanguageTest() {
    }

    public static void main(String[] args) throws IOException {
        String source = Files.readString(Path.of(args[0])).replaceAll("(?s)/\\*.*?\\*/", "").replaceAll("//.*", "");
        for (String word : FORBIDDEN) {
            Matcher found = Pattern.compile(word).matcher(source);
            Due.due("the source has " + word, found.find() ? 1 : 0, 0);
        }
        checkFace();
        int classes = 1;
        checkClass(HouseFronts.class);
        for (Class<?> inside : HouseFronts.class.getDeclaredClasses()) {
            classes++;
            Due.due(inside + " is static", Modifier.isStatic(inside.getModifiers()) ? 1 : 0, 1);
            Due.due(inside + " is not public", Modifier.isPublic(inside.getModifiers()) ? 1 : 0, 0);
            checkClass(inside);
            for (Method method : inside.getDeclaredMethods()) {
                Due.due(method + " bears a public name", FACE.contains(method.getName()) ? 1 : 0, 0);
            }
        }
        Due.due("at most twelve classes", classes <= 12 ? 1 : 0, 1);
        Due.end("LanguageTest");
    }

    private static void checkFace() {
        Due.due("public and final", HouseFronts.class.getModifiers(), Modifier.PUBLIC | Modifier.FINAL);
        Set<String> names = new TreeSet<>();
        for (Method method : HouseFronts.class.getDeclaredMethods()) {
            if (Modifier.isPublic(method.getModifiers())) {
                names.add(method.getName());
            } else {
                Due.due(method + " is private", Modifier.isPrivate(method.getModifiers()) ? 1 : 0, 1);
                Due.due(method + " bears a public name", FACE.contains(method.getName()) ? 1 : 0, 0);
            }
        }
        Due.due("the face's methods " + names, names.equals(FACE) ? 1 : 0, 1);
        for (Field field : HouseFronts.class.getDeclaredFields()) {
            int wanted = CONSTANTS.contains(field.getName()) ? Modifier.PUBLIC : Modifier.PRIVATE;
            Due.due(field + " is as told", field.getModifiers() & (Modifier.PUBLIC | Modifier.PRIVATE), wanted);
        }
        Due.due("one constructor", HouseFronts.class.getDeclaredConstructors().length, 1);
    }

    private static void checkClass(Class<?> one) {
        long fields = Arrays.stream(one.getDeclaredFields()).filter(f -> !Modifier.isStatic(f.getModifiers())).count();
        Due.due(one + " has some twenty fields", fields <= 20 ? 1 : 0, 1);
        for (Field field : one.getDeclaredFields()) {
            if (Modifier.isStatic(field.getModifiers())) {
                Due.due(field + " is final", Modifier.isFinal(field.getModifiers()) ? 1 : 0, 1);
            }
        }
        for (Method method : one.getDeclaredMethods()) {
            Due.due(method + " has at most seven parameters", method.getParameterCount() <= 7 ? 1 : 0, 1);
        }
    }
}
