import java.io.IOException;
import java.lang.reflect.Field;
import java.lang.reflect.Method;
import java.lang.reflect.Modifier;
import java.net.URL;
import java.net.URLClassLoader;
import java.nio.file.Files;
import java.nio.file.Path;
import java.util.ArrayList;
import java.util.LinkedHashMap;
import java.util.List;
import java.util.Map;
import java.util.TreeMap;
import java.util.TreeSet;
import java.util.function.IntPredicate;
import java.util.regex.Matcher;
import java.util.regex.Pattern;
import java.util.stream.Collectors;
import java.util.stream.Stream;
import javax.tools.ToolProvider;

/** README.md: its examples compile and answer what they say; its tables agree with the class. */
public final class ReadmeTest {
    private static final Path README = Path.of("README.md");
    private static final Pattern BLOCK = Pattern.compile("(?s)```java\n(.*?)```");
    private static final String MADE = "ColumnCasts x = new ColumnCasts();";
    private static final Pattern KEPT = Pattern.compile("int (\\w+) = (.*); +// (-?\\d+)\\b.*");
    private static final Pattern ASKED = Pattern.compile("(\\S.*); +// (-?\\d+)\\b.*");
    private static final Pattern CALL = Pattern.compile("(?m)^\\| `(\\w+)\\(([^)]*)\\)` \\|");
    private static final Pattern ANSWER = Pattern.compile("(?m)^\\| (-\\d+) \\| `(\\w+)` \\|");
    private static final Pattern BOUND = Pattern.compile("(?m)^\\| ([a-z][^|]*) \\| (\\d+) \\|");
    private static final int MANY = 1000;

    private ReadmeTest() {
    }

    // ---- examples

    /** One example as the body of a method, with what its calls should answer. */
    private static final class Example {
        final List<String> calls = new ArrayList<>();
        final List<Long> wanted = new ArrayList<>();
        final StringBuilder body = new StringBuilder();

        void read(String block) {
            for (String line : block.split("\n")) {
                Matcher kept = KEPT.matcher(line);
                Matcher asked = ASKED.matcher(line);
                if (kept.matches()) {
                    body.append("int ").append(kept.group(1)).append(" = ").append(kept.group(2)).append(";\n");
                    add(kept.group(2), kept.group(1), kept.group(3));
                } else if (asked.matches()) {
                    add(asked.group(1), asked.group(1), asked.group(2));
                } else {
                    Checks.due("a line of README.md without an answer", line, MADE);
                    body.append(line).append('\n');
                }
            }
        }

        private void add(String call, String value, String answer) {
            body.append("got[").append(calls.size()).append("] = ").append(value).append(";\n");
            calls.add(call);
            wanted.add(Long.parseLong(answer));
        }

        String method(int number) {
            return "public static long[] example" + number + "() {\nlong[] got = new long[" + calls.size() + "];\n"
                + body + "return got;\n}\n";
        }
    }

    private static void examples(String readme) throws IOException, ReflectiveOperationException {
        StringBuilder source = new StringBuilder("public final class Examples {\n");
        List<Example> examples = new ArrayList<>();
        Matcher blocks = BLOCK.matcher(readme);
        while (blocks.find()) {
            String block = blocks.group(1);
            if (block.startsWith("static ")) {
                source.append(block);
            } else {
                Example example = new Example();
                example.read(block);
                source.append(example.method(examples.size()));
                examples.add(example);
            }
        }
        // How an object is made, how cells compare, and the four groups of calls.
        Checks.due("examples in README.md", examples.size(), 6);
        run(source.append("}\n").toString(), examples);
    }

    private static void run(String source, List<Example> examples) throws IOException, ReflectiveOperationException {
        Path folder = Files.createTempDirectory("readme");
        Path file = folder.resolve("Examples.java");
        Files.writeString(file, source);
        int failed = ToolProvider.getSystemJavaCompiler().run(null, null, null, "--release", "17",
            "-cp", System.getProperty("java.class.path"), "-d", folder.toString(), file.toString());
        Checks.due("javac of the examples in README.md", failed, 0);
        if (failed == 0) {
            try (URLClassLoader loader = new URLClassLoader(new URL[] {folder.toUri().toURL()})) {
                Class<?> compiled = loader.loadClass("Examples");
                for (int n = 0; n < examples.size(); n++) {
                    compare(n, examples.get(n), (long[]) compiled.getMethod("example" + n).invoke(null));
                }
            }
        }
        Files.deleteIfExists(folder.resolve("Examples.class"));
        Files.delete(file);
        Files.delete(folder);
    }

    private static void compare(int number, Example example, long[] got) {
        for (int i = 0; i < got.length; i++) {
            Checks.due("README.md, example " + number + ", " + example.calls.get(i), got[i], example.wanted.get(i));
        }
    }

    // ---- tables

    /** Every call with as many numbers as it takes, and no other one. */
    private static void calls(String readme) {
        TreeSet<String> there = new TreeSet<>();
        for (Method method : ColumnCasts.class.getDeclaredMethods()) {
            if (Modifier.isPublic(method.getModifiers())) {
                there.add(method.getName() + " " + method.getParameterCount());
            }
        }
        TreeSet<String> told = new TreeSet<>();
        Matcher rows = CALL.matcher(readme);
        while (rows.find()) {
            int numbers = rows.group(2).isEmpty() ? 0 : rows.group(2).split(",").length;
            told.add(rows.group(1) + " " + numbers);
        }
        Checks.due("calls in README.md", told.toString(), there.toString());
    }

    private static void answers(String readme) throws IllegalAccessException {
        Map<String, Integer> there = new TreeMap<>();
        for (Field field : ColumnCasts.class.getDeclaredFields()) {
            if (Modifier.isPublic(field.getModifiers())) {
                there.put(field.getName(), field.getInt(null));
            }
        }
        Map<String, Integer> told = new TreeMap<>();
        Matcher rows = ANSWER.matcher(readme);
        while (rows.find()) {
            told.put(rows.group(2), Integer.valueOf(rows.group(1)));
        }
        Checks.due("answers in README.md", told.toString(), there.toString());
    }

    private static void bounds(String readme) {
        Map<String, Integer> told = new LinkedHashMap<>();
        Matcher rows = BOUND.matcher(readme.substring(readme.indexOf("## Bounds")));
        while (rows.find()) {
            told.put(rows.group(1), Integer.valueOf(rows.group(2)));
        }
        Checks.due("bounds in README.md", told.toString(), measured().toString());
    }

    private static Map<String, Integer> measured() {
        Map<String, Integer> most = new LinkedHashMap<>();
        ColumnCasts x = Checks.rows(0);
        most.put("rows", most(1, n -> x.size(n) >= 0));
        most.put("columns that come, those that were dropped too", most(1, n -> x.column(4) >= 0 && x.drop(n - 1) == 4));
        most.put("views", most(1, n -> x.view(n - 1) >= 0));
        ColumnCasts y = Checks.table(1, "i()");
        most.put("keys", most(1, n -> y.key(0, false) == n));
        most.put("filters", most(1, n -> y.filter(0, 1, 4, 0) == n));
        most.put("signs of the text", most(1, n -> y.feed(0) == n));
        most.put("digits of a number in a text", most(1, n -> Checks.read(Checks.rows(1), "i(" + "9".repeat(n) + ")") == 0));
        most.put("letters of a word", most(1, n -> Checks.read(Checks.rows(1), "n(" + "a".repeat(n) + ")") == 0));
        most.put("number of which a word is made", most(1, n -> Checks.table(1, "n()").write(0, 0, 19, n) == 1));
        most.put("number of a sign", most(0, n -> Checks.rows(0).feed(n) == 1));
        most.put("images", imagesKept());
        // Nothing shows it: what later calls answer is free.
        most.put("calls of an object", 512);
        return most;
    }

    private static int most(int first, IntPredicate isTaken) {
        int n = first;
        while (n < MANY && isTaken.test(n)) {
            n++;
        }
        return n - 1;
    }

    private static int imagesKept() {
        ColumnCasts x = Checks.rows(1);
        x.image();
        x.size(2);
        x.image();
        x.size(3);
        return x.undo() == 2 && x.undo() == 2 ? 1 : 2;
    }

    private static void tests(String readme) throws IOException {
        try (Stream<Path> files = Files.list(Path.of("src/test/java"))) {
            for (Path file : files.collect(Collectors.toList())) {
                String name = file.getFileName().toString().replace(".java", "");
                if (name.endsWith("Test")) {
                    Checks.due("tests in README.md: " + name, readme.contains("\n| `" + name + "` |") ? 1 : 0, 1);
                }
            }
        }
        Checks.due("the command in README.md", readme.contains("\n    .ci/run\n") ? 1 : 0, 1);
    }

    public static void main(String[] args) throws IOException, ReflectiveOperationException {
        String readme = Files.readString(README);
        examples(readme);
        calls(readme);
        answers(readme);
        bounds(readme);
        tests(readme);
        Checks.end();
    }
}
