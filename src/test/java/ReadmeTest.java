import java.io.IOException;
import java.lang.reflect.Method;
import java.lang.reflect.Modifier;
import java.net.URL;
import java.net.URLClassLoader;
import java.nio.file.Files;
import java.nio.file.Path;
import java.util.Set;
import java.util.TreeSet;
import java.util.regex.Matcher;
import java.util.regex.Pattern;
import java.util.stream.Collectors;
import java.util.stream.Stream;
import javax.tools.ToolProvider;

/** README.md as it stands: its examples run and answer as they say, and its lists leave nothing out. */
public final class ReadmeTest {
    private static final Due DUE = new Due("ReadmeTest");
    private static final Path README = Path.of("README.md");
    private static final Path TESTS = Path.of("src/test/java");

    /** A call whose answer the README tells: "x.at(0);   // 2: who is first". */
    private static final Pattern TOLD = Pattern.compile("(x\\.\\w+\\(.*\\));\\s*// (-?\\d+): .*");

    public static void main(String[] args) throws IOException, ReflectiveOperationException {
        String text = Files.readString(README);
        theExamples(text);
        everyCallIsNamedOnce(text);
        everyTestIsNamed(text);
        DUE.end();
    }

    /** The example asks for this one by its name. */
    public static void due(String call, long got, long want) {
        DUE.is(call, got, want);
    }

    private static void theExamples(String text) throws IOException, ReflectiveOperationException {
        StringBuilder body = new StringBuilder();
        int told = 0;
        Matcher blocks = Pattern.compile("(?s)```java\n(.*?)```").matcher(text);
        while (blocks.find()) {
            for (String line : blocks.group(1).split("\n")) {
                Matcher call = TOLD.matcher(line);
                boolean isTold = call.matches();
                told += isTold ? 1 : 0;
                body.append(isTold ? "ReadmeTest.due(\"README: " + call.group(1).replace("\"", "\\\"")
                    + "\", " + call.group(1) + ", " + call.group(2) + ");" : line).append('\n');
            }
        }
        DUE.is("examples that tell an answer", told > 0 ? 1 : 0, 1);
        Path folder = Files.createTempDirectory("readme");
        try {
            run(folder, "public class Example { public static void main(String[] args) {\n" + body + "} }\n");
        } finally {
            Files.deleteIfExists(folder.resolve("Example.java"));
            Files.deleteIfExists(folder.resolve("Example.class"));
            Files.deleteIfExists(folder);
        }
    }

    private static void run(Path folder, String example) throws IOException, ReflectiveOperationException {
        Path source = Files.writeString(folder.resolve("Example.java"), example);
        int refused = ToolProvider.getSystemJavaCompiler().run(null, null, null,
            "-cp", System.getProperty("java.class.path"), source.toString());
        DUE.is("javac of the examples", refused, 0);
        if (refused == 0) {
            try (URLClassLoader loader = new URLClassLoader(new URL[] {folder.toUri().toURL()})) {
                loader.loadClass("Example").getMethod("main", String[].class)
                    .invoke(null, (Object) new String[0]);
            }
        }
    }

    private static void everyCallIsNamedOnce(String text) {
        Set<String> due = Stream.of(BackByTwice.class.getDeclaredMethods())
            .filter(method -> Modifier.isPublic(method.getModifiers())).map(Method::getName)
            .collect(Collectors.toCollection(TreeSet::new));
        Set<String> named = new TreeSet<>();
        Matcher names = Pattern.compile("`(\\w+)`").matcher(tableBelow(text, "| what | calls |"));
        while (names.find()) {
            DUE.is(names.group(1) + " is named once", named.add(names.group(1)) ? 1 : 0, 1);
        }
        DUE.is("calls in the README " + named, named.equals(due) ? 1 : 0, 1);
    }

    private static void everyTestIsNamed(String text) throws IOException {
        Set<String> due;
        try (Stream<Path> files = Files.list(TESTS)) {
            due = files.map(file -> file.getFileName().toString())
                .filter(name -> name.endsWith("Test.java")).map(name -> name.replace(".java", ""))
                .collect(Collectors.toCollection(TreeSet::new));
        }
        Set<String> named = new TreeSet<>();
        Matcher names = Pattern.compile("(?m)^\\| `(\\w+)`")
            .matcher(tableBelow(text, "| test | what it asks |"));
        while (names.find()) {
            named.add(names.group(1));
        }
        DUE.is("tests in the README " + named, named.equals(due) ? 1 : 0, 1);
    }

    private static String tableBelow(String text, String heading) {
        int start = text.indexOf(heading);
        int end = text.indexOf("\n\n", Math.max(0, start));
        DUE.is("the table " + heading, start >= 0 && end > start ? 1 : 0, 1);
        return start >= 0 && end > start ? text.substring(start, end) : "";
    }
}
