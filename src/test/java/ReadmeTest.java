import java.io.File;
import java.io.IOException;
import java.lang.reflect.Method;
import java.lang.reflect.Modifier;
import java.net.URL;
import java.net.URLClassLoader;
import java.nio.file.Files;
import java.nio.file.Path;
import java.util.regex.Matcher;
import java.util.regex.Pattern;
import javax.tools.JavaCompiler;
import javax.tools.ToolProvider;

/** What README.md says: its example is compiled and run, and what it names is there. */
public final class ReadmeTest {
    private static final Pattern BLOCK = Pattern.compile("(?s)```java\n(.*?)```");
    private static final Pattern ANSWERS = Pattern.compile("(int (\\w+) = )?(.*);\\s+// answers (-?\\d+)(:.*)?");
    private static final Pattern THROWS = Pattern.compile("(.*);\\s+// throws (\\w+)");

    private ReadmeTest() {
    }

    // For the example, which is loaded by a loader of its own and so sees public members alone.

    /** A call of a line of the example. */
    public interface Call {
        void run();
    }

    public static void due(String line, double got, double want) {
        Expect.due("README.md: " + line, got, want);
    }

    public static void fails(String line, Class<? extends RuntimeException> want, Call call) {
        Expect.fails("README.md: " + line, want, call::run);
    }

    private static String linesOf(String readme) {
        StringBuilder lines = new StringBuilder();
        int compared = 0;
        Matcher block = BLOCK.matcher(readme);
        while (block.find()) {
            for (String line : block.group(1).split("\n")) {
                String looked = looked(line);
                compared += looked.equals(line) ? 0 : 1;
                lines.append(looked).append('\n');
            }
        }
        Expect.due("answers told by README.md", compared > 20 ? 1 : 0, 1);
        return lines.toString();
    }

    /** The line as one that looks at what its comment tells. */
    private static String looked(String line) {
        String told = "\"" + line.replace("\"", "'") + "\"";
        Matcher answers = ANSWERS.matcher(line);
        if (answers.matches()) {
            String name = answers.group(2);
            String call = answers.group(3);
            String want = answers.group(4);
            return name == null
                    ? "ReadmeTest.due(" + told + ", " + call + ", " + want + ");"
                    : "int " + name + " = " + call + "; ReadmeTest.due(" + told + ", " + name + ", " + want + ");";
        }
        Matcher fails = THROWS.matcher(line);
        if (fails.matches()) {
            return "ReadmeTest.fails(" + told + ", " + fails.group(2) + ".class, () -> " + fails.group(1) + ");";
        }
        return line;
    }

    private static void example(String readme) throws IOException, ReflectiveOperationException {
        Path folder = Files.createTempDirectory("readme");
        Path file = folder.resolve("Example.java");
        Files.writeString(file, "import java.util.NoSuchElementException;\npublic class Example {\n"
                + "public static void run() {\n" + linesOf(readme) + "}\n}\n");
        JavaCompiler compiler = ToolProvider.getSystemJavaCompiler();
        int faults = compiler == null ? 1 : compiler.run(null, System.out, System.out, "-cp",
                System.getProperty("java.class.path"), "-d", folder.toString(), file.toString());
        Expect.due("faults of the compiler", faults, 0);
        if (faults == 0) {
            try (URLClassLoader loader = new URLClassLoader(new URL[] {folder.toUri().toURL()})) {
                loader.loadClass("Example").getMethod("run").invoke(null);
            }
        }
        for (File each : folder.toFile().listFiles()) {
            Files.delete(each.toPath());
        }
        Files.delete(folder);
    }

    private static void calls(String readme) {
        for (Method method : LotSales.class.getDeclaredMethods()) {
            if (Modifier.isPublic(method.getModifiers())) {
                holds("the call " + method.getName() + " is named", readme.contains("`" + method.getName() + "`"));
            }
        }
    }

    private static void tests(String readme) {
        for (String name : new File("src/test/java").list()) {
            String test = name.replace(".java", "");
            boolean isNamed = readme.contains("`" + (test.startsWith("EdgesOf") ? "EdgesOf...Test" : test) + "`");
            holds("the test " + test + " is named", isNamed || !test.endsWith("Test"));
        }
        Matcher named = Pattern.compile("\\b\\w+Test\\b").matcher(readme);
        while (named.find()) {
            holds("there is a test " + named.group(), new File("src/test/java/" + named.group() + ".java").exists());
        }
        Matcher file = Pattern.compile("`([\\w./]+/[\\w./]+)`").matcher(readme);
        while (file.find()) {
            holds("there is " + file.group(1), new File(file.group(1)).exists());
        }
        holds(".ci/run can be executed", new File(".ci/run").canExecute());
    }

    private static void holds(String told, boolean isSo) {
        Expect.due("README.md: " + told, isSo ? 1 : 0, 1);
    }

    public static void main(String[] args) throws IOException, ReflectiveOperationException {
        String readme = Files.readString(Path.of("README.md"));
        example(readme);
        calls(readme);
        tests(readme);
        Expect.end();
    }
}
