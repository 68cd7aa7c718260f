import java.io.IOException;
import java.lang.invoke.MethodHandles;
import java.nio.file.Files;
import java.nio.file.Path;
import java.util.ArrayList;
import java.util.List;
import java.util.regex.Matcher;
import java.util.regex.Pattern;
import javax.tools.JavaCompiler;
import javax.tools.ToolProvider;

/** The examples of README.md are compiled and run; the answer written behind a call is due. */
public final class ReadmeTest {
    private static final String MADE = "ReadmeExample";
    private static final Pattern ANSWERED = Pattern.compile("(x\\.\\w+\\(.*\\)); +// (-?\\d+|true|false)\\b.*");
    private static final Pattern CALL = Pattern.compile("`(\\w+)`");
    private static final int LEAST_ANSWERS = 20;

    private ReadmeTest() {
    }

    public static void main(String[] args) throws IOException, ReflectiveOperationException {
        List<String> readme = Files.readAllLines(Path.of("README.md"));
        example(readme);
        allCallsAreTold(readme);
        Feeder.finish();
    }

    private static void example(List<String> readme) throws IOException, ReflectiveOperationException {
        Path dir = Files.createTempDirectory("readme");
        Path source = dir.resolve(MADE + ".java");
        Path made = dir.resolve(MADE + ".class");
        Files.writeString(source, sourceOf(readme));
        JavaCompiler compiler = ToolProvider.getSystemJavaCompiler();
        int failed = compiler.run(null, null, null, "-proc:none", "-cp",
            System.getProperty("java.class.path"), "-d", dir.toString(), source.toString());
        Feeder.due("the examples compile", failed, 0);
        if (failed == 0) {
            Class<?> c = MethodHandles.lookup().defineClass(Files.readAllBytes(made));
            c.getDeclaredMethod("run").invoke(null);
        }
        Files.deleteIfExists(made);
        Files.delete(source);
        Files.delete(dir);
    }

    /** Blocks that begin with "static" are methods; the lines of the others are done in order. */
    private static String sourceOf(List<String> readme) {
        StringBuilder methods = new StringBuilder();
        StringBuilder body = new StringBuilder();
        StringBuilder to = null;
        int answers = 0;
        for (int n = 0; n < readme.size(); n++) {
            String line = readme.get(n);
            if (line.startsWith("```")) {
                boolean begins = line.equals("```java") && n + 1 < readme.size();
                to = !begins ? null : readme.get(n + 1).startsWith("static") ? methods : body;
            } else if (to != null) {
                Matcher m = ANSWERED.matcher(line);
                boolean isAnswered = m.matches();
                answers += isAnswered ? 1 : 0;
                to.append(isAnswered ? "Feeder.due(\"README.md line " + (n + 1) + "\", " + m.group(1) + ", "
                    + m.group(2) + ");" : line).append('\n');
            }
        }
        Feeder.due("answers in README.md: " + answers, answers >= LEAST_ANSWERS, true);
        return "final class " + MADE + " {\nprivate static final int NONE = ByteViews.NONE;\n" + methods
            + "public static void run() {\n" + body + "}\n}\n";
    }

    private static void allCallsAreTold(List<String> readme) {
        List<String> told = new ArrayList<>();
        for (String line : readme) {
            Matcher m = CALL.matcher(line);
            while (line.startsWith("| ") && m.find()) {
                told.add(m.group(1));
            }
        }
        for (java.lang.reflect.Method m : ByteViews.class.getMethods()) {
            if (m.getDeclaringClass() == ByteViews.class) {
                Feeder.due(m.getName() + " is told once", told.stream().filter(m.getName()::equals).count(), 1);
            }
        }
    }
}
