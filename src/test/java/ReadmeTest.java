import java.io.ByteArrayOutputStream;
import java.io.File;
import java.io.PrintStream;
import java.lang.reflect.Method;
import java.lang.reflect.Modifier;
import java.net.URL;
import java.net.URLClassLoader;
import java.nio.charset.StandardCharsets;
import java.nio.file.Files;
import java.nio.file.Path;
import java.util.regex.Matcher;
import java.util.regex.Pattern;
import javax.tools.ToolProvider;

/** README.md alone must be enough to use the class: its program runs as it says, and each call of the face is told. */
public final class ReadmeTest {
    private static int wrong = 0;

    public static void main(String[] args) throws Exception {
        String page = Files.readString(Path.of(System.getProperty("strikehall.readme", "README.md")));
        String printed = run(block(page, "java"));
        say(printed.equals(block(page, "text")), "the program on the page prints what the page says, not:\n" + printed);
        for (Method method : StrikeHall.class.getDeclaredMethods()) {
            if (Modifier.isPublic(method.getModifiers())) {
                say(tells(page, method), "the page tells " + method.getName() + " with its " + method.getParameterCount() + " numbers");
            }
        }
        for (File test : testFiles()) {
            say(page.contains("`" + test.getName().replace(".java", "") + "`"), "the page names " + test.getName());
        }
        System.out.println("ReadmeTest: " + wrong + " wrong");
        if (wrong != 0) {
            System.exit(1);
        }
    }

    private static void say(boolean holds, String rule) {
        if (!holds) {
            wrong++;
            System.out.println("not so: " + rule);
        }
    }

    private static String block(String page, String language) {
        Matcher found = Pattern.compile("(?s)```" + language + "\n(.*?)```").matcher(page);
        return found.find() ? found.group(1) : "";
    }

    private static boolean tells(String page, Method method) {
        Matcher row = Pattern.compile("(?m)^\\| `" + method.getName() + "\\((.*?)\\)` \\| \\S").matcher(page);
        return row.find() && (row.group(1).isEmpty() ? 0 : row.group(1).split(", ").length) == method.getParameterCount();
    }

    private static File[] testFiles() {
        Path main = Path.of(System.getProperty("strikehall.source", "src/main/java/StrikeHall.java")).toAbsolutePath().getParent();
        File[] found = main.resolve("../../test/java").toFile().listFiles((dir, name) -> name.endsWith("Test.java"));
        say(found != null && found.length > 0, "there are tests");
        return found == null ? new File[0] : found;
    }

    private static String run(String program) throws Exception {
        Path room = Files.createTempDirectory("readme");
        Path source = room.resolve("Example.java");
        Path compiled = room.resolve("Example.class");
        PrintStream before = System.out;
        ByteArrayOutputStream printed = new ByteArrayOutputStream();
        try (URLClassLoader loader = new URLClassLoader(new URL[] {room.toUri().toURL()})) {
            Files.writeString(source, program);
            int failed = ToolProvider.getSystemJavaCompiler().run(null, null, null,
                "-cp", System.getProperty("java.class.path"), "-d", room.toString(), source.toString());
            say(failed == 0, "the program on the page compiles");
            if (failed == 0) {
                System.setOut(new PrintStream(printed, true, StandardCharsets.UTF_8));
                loader.loadClass("Example").getMethod("main", String[].class).invoke(null, (Object) new String[0]);
            }
        } finally {
            System.setOut(before);
            Files.deleteIfExists(source);
            Files.deleteIfExists(compiled);
            Files.deleteIfExists(room);
        }
        return printed.toString(StandardCharsets.UTF_8).replace("\r\n", "\n");
    }
}
