import java.io.IOException;
import java.lang.reflect.Constructor;
import java.lang.reflect.Field;
import java.lang.reflect.Method;
import java.lang.reflect.Modifier;
import java.nio.file.Files;
import java.nio.file.Path;
import java.util.ArrayList;
import java.util.Arrays;
import java.util.HashSet;
import java.util.List;
import java.util.Set;
import java.util.TreeSet;
import java.util.regex.Matcher;
import java.util.regex.Pattern;

/** The document's face and nothing beside it; words that the language rules leave out. */
public final class PeopleTowerFaceTest {
    private static final String[] METHODS = {
        "storeys(int)", "width(int,int)", "person(int,int,int,int,int)", "out(int,boolean)", "play(int)",
        "fits()", "level()", "close()", "take(int)", "at(int)", "load(int)", "swap(int,int)", "tick(int)",
        "weak()", "effort(int,int)", "worths(int,int)", "attempt()", "count(int)",
    };
    private static final String[] CONSTANTS = {"NONE", "UNKNOWN", "OUTSIDE", "NOT", "FULL"};

    private static int wrong = 0;

    private static void check(boolean holds, String what) {
        if (!holds) {
            wrong++;
            System.out.println("not so: " + what);
        }
    }

    public static void main(String[] args) throws IOException {
        check(Modifier.isFinal(PeopleTower.class.getModifiers()), "the class is final");
        Constructor<?>[] makers = PeopleTower.class.getDeclaredConstructors();
        check(makers.length == 1 && makers[0].getParameterCount() == 0
                && Modifier.isPublic(makers[0].getModifiers()), "one public constructor");
        checkMethods();
        checkFields();
        checkInside();
        checkWords();
        System.out.println(wrong == 0 ? "the face is as told" : wrong + " wrong");
        if (wrong != 0) {
            System.exit(1);
        }
    }

    private static void checkMethods() {
        Set<String> seen = new TreeSet<>();
        Set<String> open = new HashSet<>();
        List<Method> hidden = new ArrayList<>();
        for (Method m : PeopleTower.class.getDeclaredMethods()) {
            if (Modifier.isPrivate(m.getModifiers())) {
                hidden.add(m);
                continue;
            }
            List<String> types = new ArrayList<>();
            for (Class<?> type : m.getParameterTypes()) {
                types.add(type.getName());
            }
            seen.add(m.getName() + "(" + String.join(",", types) + ")");
            open.add(m.getName());
            check(m.getReturnType() == int.class && Modifier.isPublic(m.getModifiers())
                    && !Modifier.isStatic(m.getModifiers()), m + " is public, answers an int");
        }
        check(seen.equals(new TreeSet<>(Arrays.asList(METHODS))), "methods " + seen);
        for (Class<?> inside : PeopleTower.class.getDeclaredClasses()) {
            hidden.addAll(Arrays.asList(inside.getDeclaredMethods()));
        }
        for (Method m : hidden) {
            check(!open.contains(m.getName()), m + " bears no public method's name");
            check(m.getParameterCount() <= 7, m + " takes at most seven");
        }
    }

    private static void checkFields() {
        Set<String> seen = new TreeSet<>();
        for (Field f : PeopleTower.class.getDeclaredFields()) {
            int how = f.getModifiers();
            if (!Modifier.isPrivate(how)) {
                seen.add(f.getName());
                check(Modifier.isPublic(how) && Modifier.isStatic(how) && f.getType() == int.class, f.toString());
            }
            check(!Modifier.isStatic(how) || Modifier.isFinal(how), f + " is final, if static");
        }
        check(seen.equals(new TreeSet<>(Arrays.asList(CONSTANTS))), "constants " + seen);
    }

    private static void checkInside() {
        for (Class<?> inside : PeopleTower.class.getDeclaredClasses()) {
            int how = inside.getModifiers();
            check(Modifier.isStatic(how) && !Modifier.isPublic(how) && !Modifier.isProtected(how), inside.toString());
            check(inside.getDeclaredFields().length <= 20, inside + " has at most twenty fields");
        }
    }

    private static void checkWords() throws IOException {
        String text = Files.readString(Path.of("src/main/java/PeopleTower.java"));
        String code = text.replaceAll("(?s)/\\*.*?\\*/", " ").replaceAll("//[^\n]*", " ");
        Matcher word = Pattern.compile("\\b(throw|throws|try|catch|synchronized|assert|package|\\w+Exact"
                + "|Random|random|Thread|currentTimeMillis|nanoTime|hashCode|toString)\\b|->|::").matcher(code);
        while (word.find()) {
            check(false, "the program has no '" + word.group() + "'");
        }
        Matcher line = Pattern.compile("(?m)^import (.*);").matcher(code);
        while (line.find()) {
            check(line.group(1).matches("java\\.util\\.(Arrays|ArrayList|List|Iterator)"), "import " + line.group(1));
        }
    }
}
