import java.lang.reflect.Constructor;
import java.lang.reflect.Field;
import java.lang.reflect.Method;
import java.lang.reflect.Modifier;
import java.nio.file.Files;
import java.nio.file.Path;
import java.util.ArrayList;
import java.util.Arrays;
import java.util.List;
import java.util.Set;
import java.util.TreeSet;

/** The rules of LANGUAGE.md that can be seen by a plain look at the class and its text. */
public final class LanguageTest {
    private static final Set<String> FACE = new TreeSet<>(Arrays.asList("feed", "hall", "fault", "count", "place", "turn", "may", "keep",
        "strikes", "striker", "core", "some", "plain", "rows", "deep", "first", "back", "lie", "trades", "grumble", "least", "heads", "head",
        "copy", "without", "add", "ties", "ask", "row", "judge", "hold", "held", "left"));
    private static final String[] BARRED = {"->", "::", "finally", "synchronized", "assert", "Exact(", "catch", "try", "protected", "static {",
        ".hashCode(", ".toString(", "System.out", "System.in", "System.nano", "System.current", "Random", "Thread", "interface @", "double", "float",
        "MAX_VALUE", "MIN_VALUE", "numberOf", "String.format"};

    private static int wrong = 0;

    public static void main(String[] args) throws Exception {
        face();
        List<Class<?>> classes = new ArrayList<>();
        classes.add(StrikeHall.class);
        for (Class<?> inside : StrikeHall.class.getDeclaredClasses()) {
            classes.add(inside);
            say(Modifier.isStatic(inside.getModifiers()) && !Modifier.isPublic(inside.getModifiers()), inside + " is static and not public");
            for (Method method : inside.getDeclaredMethods()) {
                say(!FACE.contains(method.getName()), method + " bears no name of the face");
            }
        }
        say(classes.size() <= 12, "at most twelve classes");
        for (Class<?> one : classes) {
            fieldsAndParameters(one);
        }
        text(Files.readString(Path.of(System.getProperty("strikehall.source", "src/main/java/StrikeHall.java"))));
        System.out.println("LanguageTest: " + wrong + " wrong");
        if (wrong != 0) {
            System.exit(1);
        }
    }

    private static void say(boolean holds, String rule) {
        if (!holds) {
            wrong++;
            System.out.println("not so: " + rule);
        }
    }

    private static void face() {
        Set<String> found = new TreeSet<>();
        for (Method method : StrikeHall.class.getDeclaredMethods()) {
            if (Modifier.isPrivate(method.getModifiers())) {
                say(!FACE.contains(method.getName()), "private " + method.getName() + " bears no name of the face");
            } else {
                say(Modifier.isPublic(method.getModifiers()) && found.add(method.getName()), method + " is of the face");
            }
        }
        say(found.equals(FACE), "the face is " + FACE + ", not " + found);
        for (Constructor<?> constructor : StrikeHall.class.getDeclaredConstructors()) {
            say(Modifier.isPublic(constructor.getModifiers()) && constructor.getParameterCount() == 0, "one public constructor");
        }
        for (Field field : StrikeHall.class.getDeclaredFields()) {
            say(Modifier.isPrivate(field.getModifiers()) || field.getName().equals("NONE"), field + " is private");
        }
        say(Modifier.isFinal(StrikeHall.class.getModifiers()), "the class is final");
    }

    private static void fieldsAndParameters(Class<?> one) {
        int fields = 0;
        for (Field field : one.getDeclaredFields()) {
            if (Modifier.isStatic(field.getModifiers())) {
                say(Modifier.isFinal(field.getModifiers()), field + " is final");
            } else {
                fields++;
            }
        }
        say(fields <= 20, one + " has at most twenty fields");
        for (Method method : one.getDeclaredMethods()) {
            say(method.getParameterCount() <= 7, method + " takes at most seven");
        }
    }

    private static void text(String source) {
        String code = source.replaceAll("(?s)/\\*.*?\\*/", "").replaceAll("//[^\n]*", "").replaceAll("\"[^\"\n]*\"", "\"\"");
        for (String barred : BARRED) {
            say(!code.contains(barred), "the class is without " + barred);
        }
        for (String line : code.split("\n")) {
            if (line.startsWith("import")) {
                say(line.matches("import java\\.util\\.(Arrays|NoSuchElementException);"), line);
            }
        }
        for (char sign : source.toCharArray()) {
            say(sign == '\n' || sign >= 32 && sign < 127, "signs are 32 to 126");
        }
        methodLengths(code.split("\n"));
    }

    /** A method's first line ends in a brace and holds one for parameters; its end has as many blanks ahead. */
    private static void methodLengths(String[] lines) {
        for (int i = 0; i < lines.length; i++) {
            if (lines[i].matches(" {4}( {4})?[a-z][^=]*\\(.*\\).*\\{")) {
                String end = lines[i].replaceAll("\\S.*", "") + "}";
                int last = i;
                while (last < lines.length && !lines[last].equals(end)) {
                    last++;
                }
                say(last - i < 60, lines[i].trim() + " is short");
            }
        }
    }
}
