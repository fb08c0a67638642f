import java.io.ByteArrayOutputStream;
import java.io.IOException;
import java.io.PrintStream;
import java.lang.reflect.Method;
import java.lang.reflect.Modifier;
import java.net.URL;
import java.net.URLClassLoader;
import java.nio.charset.StandardCharsets;
import java.nio.file.Files;
import java.nio.file.Path;
import java.util.ArrayList;
import java.util.List;
import java.util.TreeMap;
import java.util.regex.Matcher;
import java.util.regex.Pattern;
import javax.tools.ToolProvider;

/** README.md tells the truth: its example prints what it says, and its table of exceptions is that of the class. */
public final class ReadmeTest extends OverlayTest {
    private static final Pattern EXCEPTION = Pattern.compile("`(\\w+Exception)`");
    private static final Pattern CALL = Pattern.compile("`(\\w+)`");

    private static void exampleIsTrue(String readme) {
        String code = "public class Example {\n    public static void main(String[] args) {\n"
                + block(readme, "java") + "    }\n}\n";
        dueSame("what the example prints", block(readme, "text"), printedBy(code));
    }

    private static String block(String readme, String kind) {
        String begin = "```" + kind + "\n";
        int from = readme.indexOf(begin) + begin.length();
        if (from < begin.length()) {
            throw new IllegalStateException("README.md has no block of " + kind);
        }
        return readme.substring(from, readme.indexOf("```", from));
    }

    private static String printedBy(String code) {
        PrintStream before = System.out;
        ByteArrayOutputStream printed = new ByteArrayOutputStream();
        try {
            Path at = Files.createTempDirectory("example");
            Path source = Files.writeString(at.resolve("Example.java"), code);
            removeAtTheEnd(at, source, at.resolve("Example.class"));
            String classes = System.getProperty("java.class.path");
            int failed = ToolProvider.getSystemJavaCompiler().run(null, null, null, "-cp", classes, "-d",
                    at.toString(), source.toString());
            if (failed != 0) {
                return "the example does not compile";
            }
            System.setOut(new PrintStream(printed, true, StandardCharsets.UTF_8));
            runExample(at);
        } catch (IOException | ReflectiveOperationException e) {
            return "the example does not run: " + e;
        } finally {
            System.setOut(before);
        }
        return printed.toString(StandardCharsets.UTF_8).replace("\r\n", "\n");
    }

    private static void runExample(Path at) throws IOException, ReflectiveOperationException {
        try (URLClassLoader loader = new URLClassLoader(new URL[] {at.toUri().toURL()})) {
            loader.loadClass("Example").getMethod("main", String[].class).invoke(null, (Object) new String[0]);
        }
    }

    private static void removeAtTheEnd(Path... paths) {
        // What is named last goes first, so the directory is named before what is in it.
        for (Path path : paths) {
            path.toFile().deleteOnExit();
        }
    }

    private static void tableOfExceptionsIsTrue(String readme) {
        dueSame("the table of what is thrown", declared().toString(), told(readme).toString());
    }

    private static TreeMap<String, List<String>> declared() {
        TreeMap<String, List<String>> found = new TreeMap<>();
        for (Method method : PlaneOverlay.class.getDeclaredMethods()) {
            if (Modifier.isPublic(method.getModifiers()) && method.getExceptionTypes().length > 0) {
                List<String> names = new ArrayList<>();
                for (Class<?> type : method.getExceptionTypes()) {
                    names.add(type.getSimpleName());
                }
                found.put(method.getName(), names);
            }
        }
        return found;
    }

    private static TreeMap<String, List<String>> told(String readme) {
        TreeMap<String, List<String>> found = new TreeMap<>();
        int from = readme.indexOf("\n## What is thrown\n");
        int to = readme.indexOf("\n## ", from + 1);
        for (String line : readme.substring(from, to).split("\n")) {
            if (line.startsWith("| `")) {
                String[] cells = line.substring(1).split("\\|");
                List<String> names = allOf(EXCEPTION, line);
                for (String call : allOf(CALL, cells[0])) {
                    found.put(call, names);
                }
            }
        }
        return found;
    }

    private static List<String> allOf(Pattern pattern, String text) {
        List<String> found = new ArrayList<>();
        Matcher matcher = pattern.matcher(text);
        while (matcher.find()) {
            found.add(matcher.group(1));
        }
        return found;
    }

    public static void main(String[] args) throws IOException {
        String readme = Files.readString(Path.of("README.md"));
        test("README.md: An example.", () -> exampleIsTrue(readme));
        test("README.md: What is thrown.", () -> tableOfExceptionsIsTrue(readme));
        end();
    }
}
