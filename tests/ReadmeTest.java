import java.io.IOException;
import java.lang.reflect.Method;
import java.lang.reflect.Modifier;
import java.net.URL;
import java.net.URLClassLoader;
import java.nio.file.Files;
import java.nio.file.Path;
import java.util.List;
import java.util.Set;
import java.util.TreeSet;
import java.util.regex.Matcher;
import java.util.regex.Pattern;
import javax.tools.ToolProvider;

/**
 * Each answer that an example of README.md tells is what the call answers. The
 * examples are made into a class, which calls ask() of this one for each call.
 */
public final class ReadmeTest {
    private static final Path README = Path.of("README.md");
    private static final Pattern CALL = Pattern.compile("(x\\.(\\w+)\\(.*\\)); +// (throws )?([^:]+): .+");
    private static final Pattern OTHER = Pattern.compile("BeltKnots x = new BeltKnots\\(\\);|write\\(x, \"[^\"]+\"\\);");

    private static int asked;
    private static int wrong;

    /** What a call answers, or would if it did not throw. */
    public interface Call {
        String answer();
    }

    public static String text(long number) {
        return Long.toString(number);
    }

    public static String text(double number) {
        return Double.toString(number);
    }

    public static void ask(int line, String call, String told, Call asking) {
        asked++;
        String got;
        try {
            got = asking.answer();
        } catch (RuntimeException e) {
            got = e.getClass().getSimpleName();
        }
        if (!got.equals(told)) {
            fault(line, call + " answered " + got + ", README.md tells " + told);
        }
    }

    private static void fault(int line, String text) {
        wrong++;
        System.out.println("README.md, line " + line + ": " + text);
    }

    /** The class of all examples: what begins with "static" stands in it, all else in its run(). */
    private static String examplesOf(List<String> lines, Set<String> shown) {
        StringBuilder statics = new StringBuilder();
        StringBuilder body = new StringBuilder();
        boolean inside = false;
        boolean isStatic = false;
        for (int at = 0; at < lines.size(); at++) {
            String line = lines.get(at);
            if (line.equals("```java")) {
                inside = true;
                isStatic = at + 1 < lines.size() && lines.get(at + 1).startsWith("static ");
                body.append(isStatic ? "" : "{\n");
            } else if (inside && line.equals("```")) {
                inside = false;
                body.append(isStatic ? "" : "}\n");
            } else if (inside && isStatic) {
                statics.append(line).append('\n');
            } else if (inside) {
                body.append(asking(at + 1, line, shown)).append('\n');
            }
        }
        if (inside) {
            fault(lines.size(), "the last example has no end");
        }
        return "public final class Examples {\n" + statics + "public static void run() {\n" + body + "}\n}\n";
    }

    private static String asking(int line, String text, Set<String> shown) {
        Matcher call = CALL.matcher(text);
        if (!call.matches()) {
            if (!text.isEmpty() && !OTHER.matcher(text).matches()) {
                fault(line, "neither tells an answer nor is known: " + text);
            }
            return text;
        }
        shown.add(call.group(2));
        String told = call.group(3) == null ? "ReadmeTest.text(" + call.group(4) + ")" : quoted(call.group(4));
        String answer = "() -> ReadmeTest.text(" + call.group(1) + ")";
        return "ReadmeTest.ask(" + line + ", " + quoted(call.group(1)) + ", " + told + ", " + answer + ");";
    }

    private static String quoted(String text) {
        return '"' + text.replace("\\", "\\\\").replace("\"", "\\\"") + '"';
    }

    private static void run(String examples) throws IOException, ReflectiveOperationException {
        Path folder = Files.createTempDirectory("readme");
        Path source = Files.writeString(folder.resolve("Examples.java"), examples);
        String classes = System.getProperty("java.class.path");
        int ended = ToolProvider.getSystemJavaCompiler().run(null, null, null,
                "-Xlint:all", "-Werror", "-classpath", classes, "-d", folder.toString(), source.toString());
        if (ended == 0) {
            try (URLClassLoader loader = new URLClassLoader(new URL[] {folder.toUri().toURL()})) {
                loader.loadClass("Examples").getMethod("run").invoke(null);
            }
        } else {
            fault(0, "the examples do not compile:\n" + examples);
        }
        Files.deleteIfExists(folder.resolve("Examples.class"));
        Files.delete(source);
        Files.delete(folder);
    }

    /** Each method of the face is shown in an example, or named in the one that fills the buffer. */
    private static void lookForTheFace(Set<String> shown, List<String> lines) {
        for (Method method : BeltKnots.class.getDeclaredMethods()) {
            boolean isOfFace = Modifier.isPublic(method.getModifiers());
            if (isOfFace && !shown.contains(method.getName())) {
                fault(lines.size(), "no example shows what " + method.getName() + " answers");
            }
        }
    }

    public static void main(String[] args) throws IOException, ReflectiveOperationException {
        List<String> lines = Files.readAllLines(README);
        Set<String> shown = new TreeSet<>();
        String examples = examplesOf(lines, shown);
        run(examples);
        lookForTheFace(shown, lines);
        System.out.println(asked + " answers of README.md, " + wrong + " wrong");
        System.exit(wrong == 0 && asked > 0 ? 0 : 1);
    }
}
