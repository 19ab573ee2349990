import java.net.URL;
import java.net.URLClassLoader;
import java.nio.file.Files;
import java.nio.file.Path;
import java.util.ArrayList;
import java.util.Comparator;
import java.util.List;
import java.util.function.Consumer;
import java.util.regex.Matcher;
import java.util.regex.Pattern;
import java.util.stream.Stream;
import javax.tools.ToolProvider;

/**
 * README.md: its example is taken from its text, compiled and done, so that no answer named there can
 * differ from what the class answers; and each test that it names is there.
 */
public final class ReadmeTest {
    private static final Check CHECK = new Check();
    private static final Path README = Path.of("README.md");
    private static final Pattern EXAMPLE = Pattern.compile("```java\n(.*?)```", Pattern.DOTALL);
    /** A call, and behind it a comment that begins with an answer: a number or a truth. */
    private static final Pattern ANSWERED =
        Pattern.compile("\\s*(doors\\..*\\));\\s*// (-?\\d+|true|false)\\b.*");
    private static final Pattern NAMED_TEST = Pattern.compile("`(\\w+Test)`");
    /** Fewer answers would mean that the example is not read as it is written. */
    private static final int ANSWERS_LEAST = 20;

    public static void main(String[] args) throws Exception {
        String text = Files.readString(README);
        exampleHolds(text);
        everyTestIsNamed(text);
        CHECK.end();
    }

    private static void exampleHolds(String text) throws Exception {
        List<Object[]> rows = new ArrayList<>();
        Matcher example = EXAMPLE.matcher(text);
        while (example.find()) {
            rows.addAll(rowsOf(example.group(1)));
        }
        for (Object[] row : rows) {
            CHECK.due("README's " + row[0], asNumber(row[1]), asNumber(row[2]));
        }
        CHECK.due("README names " + rows.size() + " answers, enough", rows.size() >= ANSWERS_LEAST, true);
    }

    /** Of each call that has an answer behind it: its text, what it answered, what README says. */
    private static List<Object[]> rowsOf(String example) throws Exception {
        Path folder = Files.createTempDirectory("readme");
        try {
            Files.writeString(folder.resolve("Example.java"), asClass(example));
            return done(folder);
        } finally {
            remove(folder);
        }
    }

    private static String asClass(String example) {
        StringBuilder text = new StringBuilder();
        text.append("public final class Example")
            .append(" implements java.util.function.Consumer<java.util.List<Object[]>> {\n")
            .append("public void accept(java.util.List<Object[]> rows) {\n");
        for (String line : example.split("\n")) {
            text.append(asStatement(line)).append('\n');
        }
        return text.append("}\n}\n").toString();
    }

    private static String asStatement(String line) {
        Matcher answered = ANSWERED.matcher(line);
        if (!answered.matches()) {
            return line;
        }
        String call = answered.group(1);
        return "rows.add(new Object[] {\"" + call + "\", " + call + ", " + answered.group(2) + "});";
    }

    @SuppressWarnings("unchecked")
    private static List<Object[]> done(Path folder) throws Exception {
        int exit = ToolProvider.getSystemJavaCompiler().run(null, null, null,
            "-cp", System.getProperty("java.class.path"), "-d", folder.toString(),
            folder.resolve("Example.java").toString());
        CHECK.due("README's example compiled with exit code", exit, 0);
        List<Object[]> rows = new ArrayList<>();
        if (exit == 0) {
            try (URLClassLoader loader = new URLClassLoader(new URL[] {folder.toUri().toURL()})) {
                Class<?> example = loader.loadClass("Example");
                ((Consumer<List<Object[]>>) example.getConstructor().newInstance()).accept(rows);
            }
        }
        return rows;
    }

    private static long asNumber(Object answer) {
        return answer instanceof Boolean is ? (is ? 1 : 0) : (Integer) answer;
    }

    private static void remove(Path folder) throws Exception {
        try (Stream<Path> all = Files.walk(folder)) {
            for (Path path : all.sorted(Comparator.reverseOrder()).toList()) {
                Files.delete(path);
            }
        }
    }

    private static void everyTestIsNamed(String text) throws Exception {
        List<String> named = new ArrayList<>();
        Matcher name = NAMED_TEST.matcher(text);
        while (name.find()) {
            named.add(name.group(1));
            Path file = Path.of("src/test/java", name.group(1) + ".java");
            CHECK.due("README's " + file + " is there", Files.exists(file), true);
        }
        try (Stream<Path> all = Files.list(Path.of("src/test/java"))) {
            for (Path path : all.toList()) {
                String test = path.getFileName().toString().replace(".java", "");
                if (test.endsWith("Test") && !test.endsWith("EdgeTest")) {
                    CHECK.due(test + " is named in README", named.contains(test), true);
                }
            }
        }
        CHECK.due("README's .ci/run may be run", Files.isExecutable(Path.of(".ci/run")), true);
    }
}
