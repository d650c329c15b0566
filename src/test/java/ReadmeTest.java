import java.io.IOException;
import java.lang.reflect.Method;
import java.lang.reflect.Modifier;
import java.net.URL;
import java.net.URLClassLoader;
import java.nio.file.Files;
import java.nio.file.Path;
import java.util.Set;
import java.util.TreeSet;
import java.util.regex.Matcher;
import java.util.regex.Pattern;
import java.util.stream.Stream;
import javax.tools.ToolProvider;

/** What README.md shows as a use of the class holds; what it says of the tests is so. */
public final class ReadmeTest {
    private static final Pattern CALL = Pattern.compile("([xy]\\.\\w+\\(.*\\)); +// (-?\\d+|[A-Z]+): .*");
    private static final Pattern CALL_WITHOUT_ANSWER = Pattern.compile("[xy]\\.\\w+\\(.*");
    private static final Due due = new Due("readme");

    public static void main(String[] args) throws Exception {
        String readme = Files.readString(Path.of("README.md"));
        uses(readme);
        namesAllCalls(readme);
        namesAllTests(readme);
        namesTheScript(readme);
        due.end();
    }

    /** Called by the program that is made of README.md's lines. */
    public static void answer(String call, long got, long want) {
        due.is(call, got, want);
    }

    /** The lines are compiled as they stand, a call with an answer inside a question after it. */
    private static void uses(String readme) throws Exception {
        StringBuilder program = new StringBuilder("public final class ReadmeUse {\n    public static void run() {\n");
        int answers = 0;
        for (String line : javaLines(readme)) {
            Matcher m = CALL.matcher(line);
            if (m.matches()) {
                answers++;
                String want = m.group(2).matches("[A-Z]+") ? "DrawnGates." + m.group(2) : m.group(2);
                program.append("ReadmeTest.answer(\"").append(m.group(1)).append("\", ").append(m.group(1));
                program.append(", ").append(want).append(");\n");
            } else {
                due.is("an answer behind " + line, CALL_WITHOUT_ANSWER.matcher(line).matches() ? 0 : 1, 1);
                program.append(line).append('\n');
            }
        }
        due.is("calls are shown", answers > 0 ? 1 : 0, 1);
        run(program.append("    }\n}\n").toString());
    }

    private static String[] javaLines(String readme) {
        StringBuilder lines = new StringBuilder();
        Matcher blocks = Pattern.compile("(?s)```java\n(.*?)```").matcher(readme);
        while (blocks.find()) {
            lines.append(blocks.group(1));
        }
        return lines.toString().split("\n");
    }

    private static void run(String program) throws Exception {
        Path dir = Files.createTempDirectory("readme");
        try {
            Path file = Files.writeString(dir.resolve("ReadmeUse.java"), program);
            String classPath = System.getProperty("java.class.path");
            int exit = ToolProvider.getSystemJavaCompiler()
                .run(null, null, null, "-cp", classPath, "-d", dir.toString(), file.toString());
            due.is("README.md's lines compile: exit code", exit, 0);
            if (exit == 0) {
                try (URLClassLoader loader = new URLClassLoader(new URL[] {dir.toUri().toURL()})) {
                    loader.loadClass("ReadmeUse").getMethod("run").invoke(null);
                }
            }
        } finally {
            remove(dir);
        }
    }

    private static void remove(Path dir) throws IOException {
        try (Stream<Path> files = Files.list(dir)) {
            for (Path file : files.toList()) {
                Files.delete(file);
            }
        }
        Files.delete(dir);
    }

    private static void namesAllCalls(String readme) {
        for (Method m : DrawnGates.class.getDeclaredMethods()) {
            if (Modifier.isPublic(m.getModifiers())) {
                due.is("README.md names " + m.getName(), readme.contains("`" + m.getName() + "`") ? 1 : 0, 1);
            }
        }
    }

    /** Each test that there is, and no other. */
    private static void namesAllTests(String readme) throws IOException {
        Set<String> there = new TreeSet<>();
        try (Stream<Path> files = Files.list(Path.of("src/test/java"))) {
            for (Path file : files.toList()) {
                String name = file.getFileName().toString();
                if (name.endsWith("Test.java")) {
                    there.add(name.substring(0, name.length() - ".java".length()));
                }
            }
        }
        Set<String> named = new TreeSet<>();
        Matcher names = Pattern.compile("`(\\w+Test)`").matcher(readme);
        while (names.find()) {
            named.add(names.group(1));
        }
        due.is("tests " + there + ", named " + named, named.equals(there) ? 1 : 0, 1);
    }

    private static void namesTheScript(String readme) {
        due.is("README.md says .ci/run", readme.contains("\n    .ci/run\n") ? 1 : 0, 1);
        due.is("which can be run", Files.isExecutable(Path.of(".ci/run")) ? 1 : 0, 1);
    }
}
