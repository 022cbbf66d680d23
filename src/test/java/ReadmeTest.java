import java.io.IOException;
import java.net.URL;
import java.net.URLClassLoader;
import java.nio.file.Files;
import java.nio.file.Path;
import java.util.regex.Matcher;
import java.util.regex.Pattern;
import javax.tools.ToolProvider;

/** The examples of README.md: each call must answer what the comment behind it begins with. */
public final class ReadmeTest {
    private static final Pattern EXAMPLE = Pattern.compile("(?ms)^```java\n(.*?)^```$");
    private static final Pattern CALL = Pattern.compile("(b\\.\\w+\\(.*\\)); +// (true|false|-?\\d+)(:.*)?");

    public static void main(String[] args) throws IOException, ReflectiveOperationException {
        String readme = Files.readString(Path.of(args[0], "README.md"));
        StringBuilder body = new StringBuilder();
        Matcher example = EXAMPLE.matcher(readme);
        while (example.find()) {
            body.append("{\n");
            example.group(1).lines().forEach(line -> body.append(toTest(line)).append('\n'));
            body.append("}\n");
        }
        int wrong = run(body.toString());
        if (body.length() == 0) {
            System.out.println("README.md has no examples");
            wrong++;
        }
        System.out.println(wrong == 0 ? "the examples are right" : wrong + " answers are not as README.md has them");
        if (wrong != 0) System.exit(1);
    }

    private static String toTest(String line) {
        Matcher call = CALL.matcher(line);
        if (!call.matches()) {
            // A call whose comment tells no answer would be looked at by nobody.
            return line.startsWith("b.") ? "due(\"an example's line\", \"without an answer\", \"one\");" : line;
        }
        return "due(\"" + call.group(1) + "\", " + call.group(1) + ", " + call.group(2) + ");";
    }

    private static int run(String body) throws IOException, ReflectiveOperationException {
        Path made = Files.createTempDirectory("readme");
        Path source = made.resolve("Examples.java");
        Path compiled = made.resolve("Examples.class");
        Files.writeString(source, "public final class Examples {\n"
            + "public static int wrong = 0;\n"
            + "private static void due(String call, Object got, Object want) {\n"
            + "  if (got.equals(want)) return;\n"
            + "  wrong++;\n"
            + "  System.out.println(call + \" answered \" + got + \", README.md has \" + want);\n"
            + "}\n"
            + "public static void run() {\n" + body + "}\n}\n");
        try {
            int failed = ToolProvider.getSystemJavaCompiler().run(null, null, null,
                "-cp", System.getProperty("java.class.path"), "-d", made.toString(), source.toString());
            if (failed != 0) return 1;
            try (URLClassLoader loader = new URLClassLoader(new URL[] {made.toUri().toURL()})) {
                Class<?> examples = loader.loadClass("Examples");
                examples.getMethod("run").invoke(null);
                return examples.getField("wrong").getInt(null);
            }
        } finally {
            Files.deleteIfExists(compiled);
            Files.delete(source);
            Files.delete(made);
        }
    }
}
