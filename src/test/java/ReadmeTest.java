import java.lang.reflect.Method;
import java.lang.reflect.Modifier;
import java.net.URL;
import java.net.URLClassLoader;
import java.nio.file.Files;
import java.nio.file.Path;
import java.util.ArrayList;
import java.util.List;
import java.util.regex.Matcher;
import java.util.regex.Pattern;
import javax.tools.ToolProvider;

/**
 * What README.md shows, compiled and run as it stands there: behind each call of a java block the
 * comment begins with the answer. A block that begins with "static" is a method for the others.
 */
public final class ReadmeTest {
    private static final Pattern BLOCK = Pattern.compile("(?s)```java\n(.*?)```");
    private static final Pattern CALL = Pattern.compile("(\\S.*\\));\\s+// (-?\\d+|true|false)(:.*)?");
    private static final String NEW = "LeavenHouse house = new LeavenHouse();";

    private static int wrong = 0;
    private static int calls = 0;

    public static void main(String[] args) throws Exception {
        String readme = Files.readString(Path.of("README.md"));
        everyPromiseIsShown(readme);
        Path work = Files.createTempDirectory("readme");
        run(work, programOf(readme));
        clear(work);
        System.out.println(wrong == 0 ? "readme: " + calls + " answers, all as README.md says"
                : wrong + " wrong");
        System.exit(wrong == 0 ? 0 : 1);
    }

    private static void tell(String what) {
        wrong++;
        System.out.println("README.md: " + what);
    }

    /** Called by what the page becomes. */
    public static void due(String call, Object got, String want) {
        calls++;
        if (!String.valueOf(got).equals(want)) {
            tell(call + " answered " + got + ", the page says " + want);
        }
    }

    private static void everyPromiseIsShown(String readme) {
        StringBuilder shown = new StringBuilder();
        for (Matcher block = BLOCK.matcher(readme); block.find();) {
            shown.append(block.group(1));
        }
        for (Method m : LeavenHouse.class.getDeclaredMethods()) {
            if (Modifier.isPublic(m.getModifiers()) && shown.indexOf("house." + m.getName() + "(") < 0) {
                tell("doesn't show " + m.getName());
            }
        }
    }

    private static String programOf(String readme) {
        StringBuilder methods = new StringBuilder();
        StringBuilder body = new StringBuilder();
        for (Matcher block = BLOCK.matcher(readme); block.find();) {
            if (block.group(1).startsWith("static ")) {
                methods.append(block.group(1));
            } else {
                body.append("{\n").append(statementsOf(block.group(1))).append("}\n");
            }
        }
        return "public final class Page {\n" + methods + "public static void main(String[] args) {\n"
                + body + "}\n}\n";
    }

    private static String statementsOf(String block) {
        StringBuilder statements = new StringBuilder();
        for (String line : block.split("\n")) {
            Matcher call = CALL.matcher(line);
            if (call.matches()) {
                String told = call.group(1).replace("\"", "'");
                statements.append("ReadmeTest.due(\"" + told + "\", " + call.group(1) + ", \""
                        + call.group(2) + "\");\n");
            } else {
                statements.append(line).append('\n');
                if (!line.equals(NEW)) {
                    tell("a line without an answer: " + line);
                }
            }
        }
        return statements.toString();
    }

    private static void run(Path work, String program) throws Exception {
        Path source = Files.writeString(work.resolve("Page.java"), program);
        List<String> options = new ArrayList<>(List.of("-d", work.toString(), "-cp",
                System.getProperty("java.class.path"), source.toString()));
        int failed = ToolProvider.getSystemJavaCompiler().run(null, null, null,
                options.toArray(new String[0]));
        if (failed != 0) {
            tell("what it shows doesn't compile");
            return;
        }
        try (URLClassLoader loader = new URLClassLoader(new URL[] {work.toUri().toURL()})) {
            loader.loadClass("Page").getMethod("main", String[].class)
                    .invoke(null, (Object) new String[0]);
        }
    }

    private static void clear(Path work) throws Exception {
        for (String name : List.of("Page.java", "Page.class")) {
            Files.deleteIfExists(work.resolve(name));
        }
        Files.delete(work);
    }
}
