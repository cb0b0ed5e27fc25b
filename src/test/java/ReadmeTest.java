import java.io.File;
import java.io.IOException;
import java.lang.reflect.Method;
import java.lang.reflect.Modifier;
import java.net.URL;
import java.net.URLClassLoader;
import java.nio.file.Files;
import java.nio.file.Path;
import java.util.Comparator;
import java.util.List;
import java.util.regex.Matcher;
import java.util.regex.Pattern;
import java.util.stream.Stream;
import javax.tools.ToolProvider;

/** README.md: its examples answer what stands behind them, and every call and every test has its row. */
public final class ReadmeTest {
    private static final Due DUE = new Due("ReadmeTest");
    private static final Path README = Path.of("README.md");
    private static final Pattern EXAMPLE = Pattern.compile("```java\n(.*?)```", Pattern.DOTALL);
    private static final Pattern CALL = Pattern.compile("(x\\..*\\)); *// ([^:]*)(:.*)?");

    public static void main(String[] args) throws IOException, ReflectiveOperationException {
        String readme = Files.readString(README);
        everyCallIsTold(readme);
        everyTestIsTold(readme);
        runExamples(exampleProgram(readme));
        DUE.end();
    }

    private static void everyCallIsTold(String readme) {
        for (Method method : PubSubBroker.class.getDeclaredMethods()) {
            if (Modifier.isPublic(method.getModifiers())) {
                DUE.yes(method.getName() + " has a row", readme.contains("\n| `" + method.getName() + "("));
            }
        }
    }

    private static void everyTestIsTold(String readme) throws IOException {
        String table = readme.substring(readme.indexOf("\n## Tests"));
        try (Stream<Path> files = Files.list(Path.of("src/test/java"))) {
            for (Path file : files.toList()) {
                String name = file.getFileName().toString().replace(".java", "");
                DUE.yes(name + " has a row", !name.endsWith("Test") || table.contains("`" + name + "`"));
            }
        }
    }

    /** All examples as one program, which hands every call's answer, and the one due, to answer(). */
    private static String exampleProgram(String readme) {
        StringBuilder lines = new StringBuilder("public final class Example { public static void run() {\n");
        Matcher example = EXAMPLE.matcher(readme);
        DUE.yes("there is an example", readme.contains("PubSubBroker x = new PubSubBroker();") && example.find());
        example.reset();
        while (example.find()) {
            example.group(1).lines().forEach(line -> lines.append(statement(line)).append('\n'));
        }
        return lines.append("} }\n").toString();
    }

    private static String statement(String line) {
        Matcher call = CALL.matcher(line);
        if (!call.matches()) {
            DUE.yes("an example tells the answer of " + line, !line.startsWith("x."));
            return line;
        }
        return "ReadmeTest.answer(\"" + call.group(1) + "\", " + call.group(1) + ", " + call.group(2) + ");";
    }

    public static void answer(String call, Object got, Object want) {
        DUE.is(call, got, want);
    }

    private static void runExamples(String program) throws IOException, ReflectiveOperationException {
        Path folder = Files.createTempDirectory("readme");
        try {
            Path source = Files.writeString(folder.resolve("Example.java"), program);
            int exit = ToolProvider.getSystemJavaCompiler().run(null, null, null, "-proc:none",
                    "-cp", System.getProperty("java.class.path"), "-d", folder.toString(), source.toString());
            DUE.is("javac of the examples", exit, 0);
            if (exit == 0) {
                run(folder);
            }
        } finally {
            delete(folder);
        }
    }

    private static void run(Path folder) throws IOException, ReflectiveOperationException {
        URL[] places = {folder.toUri().toURL()};
        try (URLClassLoader loader = new URLClassLoader(places, ReadmeTest.class.getClassLoader())) {
            loader.loadClass("Example").getMethod("run").invoke(null);
        }
    }

    private static void delete(Path folder) throws IOException {
        try (Stream<Path> files = Files.walk(folder)) {
            List<File> deepestFirst = files.sorted(Comparator.reverseOrder()).map(Path::toFile).toList();
            deepestFirst.forEach(File::delete);
        }
    }
}
