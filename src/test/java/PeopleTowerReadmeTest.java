import java.io.IOException;
import java.lang.reflect.Method;
import java.lang.reflect.Modifier;
import java.nio.file.DirectoryStream;
import java.nio.file.Files;
import java.nio.file.Path;
import java.util.Set;
import java.util.TreeSet;
import java.util.regex.Matcher;
import java.util.regex.Pattern;

/** Runs what README.md shows of the class's use, so that it answers as README.md says. */
public final class PeopleTowerReadmeTest {
    private static final Pattern MADE =
            Pattern.compile("PeopleTower tower = new PeopleTower\\(\\);(?: +//.*)?");
    private static final Pattern CALL =
            Pattern.compile("tower\\.(\\w+)\\(([^()]*)\\); +// (-?\\d+|[A-Z]+)(?:: .+)?");
    private static final Pattern CONSTANT = Pattern.compile("(?m)^[- ]*`([A-Z]+)` \\((-?\\d+)\\)");
    private static final Pattern TEST = Pattern.compile("(?m)^- `(\\w+Test)`: ");

    private static PeopleTower tower = null;
    private static final Set<String> shown = new TreeSet<>();
    private static int calls = 0;
    private static int wrong = 0;

    private static void check(boolean holds, String what) {
        if (!holds) {
            wrong++;
            System.out.println("README.md: " + what);
        }
    }

    public static void main(String[] args) throws ReflectiveOperationException, IOException {
        String text = Files.readString(Path.of("README.md"));
        runBlocks(text);
        checkShown();
        checkConstants(text);
        checkTests(text);
        System.out.println(calls + " calls of README.md, " + wrong + " wrong");
        if (wrong != 0) {
            System.exit(1);
        }
    }

    private static void runBlocks(String text) throws ReflectiveOperationException {
        boolean inside = false;
        for (String line : text.split("\\R")) {
            if (line.startsWith("```")) {
                inside = line.equals("```java");
            } else if (inside && !line.isBlank()) {
                runLine(line);
            }
        }
        check(!inside, "the last block has no end");
    }

    private static void runLine(String line) throws ReflectiveOperationException {
        if (MADE.matcher(line).matches()) {
            tower = new PeopleTower();
            return;
        }
        Matcher call = CALL.matcher(line);
        if (!call.matches() || tower == null) {
            check(false, "cannot be run: " + line);
            return;
        }
        calls++;
        shown.add(call.group(1));
        int want = number(call.group(3));
        int got = answer(call.group(1), call.group(2));
        check(got == want, line.trim() + " .. answered " + got);
    }

    private static int number(String told) throws ReflectiveOperationException {
        return Character.isUpperCase(told.charAt(0))
                ? PeopleTower.class.getField(told).getInt(null)
                : Integer.parseInt(told);
    }

    private static int answer(String name, String list) throws ReflectiveOperationException {
        String[] words = list.isBlank() ? new String[0] : list.split(", ");
        Class<?>[] types = new Class<?>[words.length];
        Object[] values = new Object[words.length];
        for (int i = 0; i < words.length; i++) {
            boolean truth = words[i].equals("true") || words[i].equals("false");
            types[i] = truth ? boolean.class : int.class;
            values[i] = truth ? (Object) Boolean.valueOf(words[i]) : (Object) Integer.valueOf(words[i]);
        }
        return (Integer) PeopleTower.class.getMethod(name, types).invoke(tower, values);
    }

    private static void checkShown() {
        for (Method m : PeopleTower.class.getDeclaredMethods()) {
            if (Modifier.isPublic(m.getModifiers())) {
                check(shown.contains(m.getName()), "shows no call of " + m.getName());
            }
        }
    }

    private static void checkConstants(String text) throws ReflectiveOperationException {
        Set<String> told = new TreeSet<>();
        Matcher constant = CONSTANT.matcher(text);
        while (constant.find()) {
            told.add(constant.group(1));
            check(number(constant.group(1)) == Integer.parseInt(constant.group(2)), constant.group());
        }
        check(told.equals(Set.of("NONE", "UNKNOWN", "OUTSIDE", "NOT", "FULL")), "tells the constants " + told);
    }

    private static void checkTests(String text) throws IOException {
        Set<String> told = new TreeSet<>();
        Matcher test = TEST.matcher(text);
        while (test.find()) {
            told.add(test.group(1));
        }
        Set<String> there = new TreeSet<>();
        try (DirectoryStream<Path> files = Files.newDirectoryStream(Path.of("src/test/java"), "*.java")) {
            for (Path file : files) {
                there.add(file.getFileName().toString().replace(".java", ""));
            }
        }
        check(told.equals(there), "lists the tests " + told + ", there are " + there);
    }
}
