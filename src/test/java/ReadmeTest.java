import java.io.IOException;
import java.lang.reflect.Method;
import java.lang.reflect.Modifier;
import java.net.URL;
import java.net.URLClassLoader;
import java.nio.file.Files;
import java.nio.file.Path;
import java.util.ArrayList;
import java.util.List;
import java.util.regex.Matcher;
import java.util.regex.Pattern;
import java.util.stream.Stream;
import javax.tools.JavaCompiler;
import javax.tools.ToolProvider;

/** README.md says what the class does: its Java is compiled as it stands there, and its calls answer what it says. */
public final class ReadmeTest {
    private static final Pattern BLOCK = Pattern.compile("(?s)```java\n(.*?)```");
    private static final Pattern MADE = Pattern.compile("GrassCells \\w+ = new GrassCells\\(\\);");
    private static final Pattern CALL = Pattern.compile("(.+\\)); +// (-?\\d+|true|false)(:.*)?");

    private final String readme;
    private final List<String> calls = new ArrayList<>();
    private final List<String> due = new ArrayList<>();
    private final StringBuilder members = new StringBuilder();
    private final StringBuilder statements = new StringBuilder();

    private ReadmeTest(String readme) {
        this.readme = readme;
    }

    public static void main(String[] args) throws IOException, ReflectiveOperationException {
        ReadmeTest test = new ReadmeTest(Files.readString(Path.of("README.md")));
        test.readBlocks();
        test.runBlocks();
        test.face();
        test.tests();
        Check.close("ReadmeTest");
    }

    private void readBlocks() {
        Matcher block = BLOCK.matcher(readme);
        while (block.find()) {
            if (block.group(1).startsWith("static ")) {
                members.append(block.group(1));
            } else {
                block.group(1).lines().filter(line -> !line.isBlank()).forEach(this::readStatement);
            }
        }
    }

    private void readStatement(String line) {
        Matcher call = CALL.matcher(line);
        if (call.matches()) {
            calls.add(call.group(1));
            due.add(call.group(2));
            statements.append("answers.add(String.valueOf(").append(call.group(1)).append("));\n");
            return;
        }
        Check.due("README.md: '" + line + "' says what it answers", MADE.matcher(line).matches(), true);
        statements.append(line).append('\n');
    }

    private void runBlocks() throws IOException, ReflectiveOperationException {
        Path folder = Files.createTempDirectory("readme");
        Path source = folder.resolve("ReadmeRun.java");
        Path compiled = folder.resolve("ReadmeRun.class");
        Files.writeString(source, "public final class ReadmeRun {\n" + members
                + "public static java.util.List<String> answers() {\n"
                + "java.util.List<String> answers = new java.util.ArrayList<>();\n"
                + statements + "return answers;\n}\n}\n");
        JavaCompiler compiler = ToolProvider.getSystemJavaCompiler();
        int code = compiler.run(null, null, null, "-cp", System.getProperty("java.class.path"),
                "-d", folder.toString(), source.toString());
        Check.due("README.md: compiles", code == 0, true);
        if (code == 0) {
            compare(folder);
        }
        Files.deleteIfExists(compiled);
        Files.deleteIfExists(source);
        Files.deleteIfExists(folder);
    }

    private void compare(Path folder) throws IOException, ReflectiveOperationException {
        try (URLClassLoader loader = new URLClassLoader(new URL[] {folder.toUri().toURL()})) {
            Object answers = loader.loadClass("ReadmeRun").getMethod("answers").invoke(null);
            List<?> got = (List<?>) answers;
            Check.due("README.md: calls", got.size(), due.size());
            for (int call = 0; call < got.size(); call++) {
                Check.due("README.md: " + calls.get(call) + " says " + due.get(call) + ", gives " + got.get(call),
                        got.get(call).equals(due.get(call)), true);
            }
        }
    }

    private void face() {
        for (Method m : GrassCells.class.getDeclaredMethods()) {
            if (Modifier.isPublic(m.getModifiers())) {
                boolean called = calls.stream().anyMatch(call -> call.matches("[xy]\\." + m.getName() + "\\(.*"));
                Check.due("README.md calls " + m.getName(), called, true);
            }
        }
    }

    private void tests() throws IOException {
        try (Stream<Path> files = Files.list(Path.of("src/test/java"))) {
            files.map(file -> file.getFileName().toString().replace(".java", ""))
                    .forEach(name -> Check.due("README.md names " + name,
                            readme.contains("| " + name + " |") || readme.contains("`" + name + "`"), true));
        }
        Check.due("README.md says how to run its tests", readme.contains("    bash .ci/run\n"), true);
        Check.due(".ci/run can be run", Files.isExecutable(Path.of(".ci/run")), true);
    }
}
