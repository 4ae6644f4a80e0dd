import java.io.IOException;
import java.lang.reflect.Method;
import java.lang.reflect.Modifier;
import java.net.URL;
import java.net.URLClassLoader;
import java.nio.file.Files;
import java.nio.file.Path;
import java.util.ArrayList;
import java.util.Comparator;
import java.util.List;
import java.util.TreeSet;
import java.util.regex.Matcher;
import java.util.regex.Pattern;
import java.util.stream.Stream;
import javax.tools.ToolProvider;

/** What README.md says is so: its examples, its table of calls, the files it names. Runs from the project's folder. */
public final class ReadmeTests {
    private static final Pattern ANSWERED = Pattern.compile("(g\\.\\w+\\(.*?\\));\\s*// (-?\\d+|[A-Z]+)\\b.*");
    private static final Pattern CALL_ROW = Pattern.compile("\\| `(\\w+)\\(([^)]*)\\)` \\|.*\\|([^|]*)\\|");
    private static final Pattern REFUSALS = Pattern.compile("\\b(UNKNOWN|OUTSIDE|STATE|FULL)\\b");
    private static int wrong = 0;

    public static void main(String[] args) throws Exception {
        String readme = Files.readString(Path.of("README.md"));
        examples(readme);
        calls(readme);
        tests(readme);
        files(readme);
        System.out.println(wrong == 0 ? "what the README says is so" : wrong + " things that the README says are not so");
        if (wrong != 0) {
            System.exit(1);
        }
    }

    private static void check(String what, boolean holds) {
        if (!holds) {
            wrong++;
            System.out.println("not so: " + what);
        }
    }

    /** Called by the examples, once they are compiled. */
    public static void due(String call, long got, long want) {
        check(call + " answered " + got + ", the README says " + want, got == want);
    }

    private static void examples(String readme) throws Exception {
        Matcher blocks = Pattern.compile("(?s)```java\n(.*?)```").matcher(readme);
        Path folder = Files.createTempDirectory("readme");
        int n = 0;
        while (blocks.find()) {
            n++;
            runExample(folder, "Example" + n, blocks.group(1));
        }
        check("there are examples", n > 0);
        try (Stream<Path> made = Files.walk(folder)) {
            for (Path path : made.sorted(Comparator.reverseOrder()).toList()) {
                Files.delete(path);
            }
        }
    }

    private static void runExample(Path folder, String name, String block) throws Exception {
        Path source = folder.resolve(name + ".java");
        Files.writeString(source, sourceOf(name, block));
        int compiled = ToolProvider.getSystemJavaCompiler().run(null, null, null, "-cp", System.getProperty("java.class.path"),
            "-d", folder.toString(), source.toString());
        check(name + " can be compiled", compiled == 0);
        if (compiled == 0) {
            try (URLClassLoader loader = new URLClassLoader(new URL[] {folder.toUri().toURL()})) {
                loader.loadClass(name).getMethod("run").invoke(null);
            }
        }
    }

    private static String sourceOf(String name, String block) {
        StringBuilder source = new StringBuilder("public final class " + name + " { public static void run() {\n");
        int answers = 0;
        for (String line : block.split("\n")) {
            Matcher m = ANSWERED.matcher(line);
            if (m.matches()) {
                answers++;
                String want = m.group(2).matches("[A-Z]+") ? "LentGallery." + m.group(2) : m.group(2);
                source.append("ReadmeTests.due(\"").append(name).append(": ").append(m.group(1)).append("\", ")
                    .append(m.group(1)).append(", ").append(want).append(");\n");
            } else {
                check("a call without its answer: " + line, !line.startsWith("g."));
                source.append(line).append('\n');
            }
        }
        check(name + " tells answers", answers > 0);
        return source.append("} }\n").toString();
    }

    /** The table has each call of the face once, with as many arguments, and the document's refusals in its order. */
    private static void calls(String readme) throws IOException {
        List<String> told = new ArrayList<>();
        for (String line : readme.split("\n")) {
            Matcher m = CALL_ROW.matcher(line);
            if (m.matches()) {
                int arguments = m.group(2).isEmpty() ? 0 : m.group(2).split(",").length;
                told.add(m.group(1) + " " + arguments);
                refusals(m.group(1), namesIn(m.group(3)));
            }
        }
        TreeSet<String> face = new TreeSet<>();
        for (Method m : LentGallery.class.getDeclaredMethods()) {
            if (Modifier.isPublic(m.getModifiers())) {
                face.add(m.getName() + " " + m.getParameterCount());
            }
        }
        check("the table has each call: " + told, new TreeSet<>(told).equals(face) && told.size() == face.size());
    }

    private static void refusals(String call, List<String> told) throws IOException {
        Path document = Path.of("../shared/DOC.md");
        if (Files.exists(document)) {
            Matcher promise = Pattern.compile("(?s)## Promise \\d+: " + call + "\n(.*?)(\n## |$)").matcher(Files.readString(document));
            check("the document has " + call, promise.find());
            List<String> due = namesIn(promise.group(1));
            check("refusals of " + call + " are " + told + ", the document says " + due, told.equals(due));
        }
    }

    private static List<String> namesIn(String text) {
        List<String> names = new ArrayList<>();
        Matcher m = REFUSALS.matcher(text);
        while (m.find()) {
            names.add(m.group(1));
        }
        return names;
    }

    private static void tests(String readme) throws IOException {
        TreeSet<String> told = new TreeSet<>();
        Matcher rows = Pattern.compile("(?m)^\\| `(src/test/java/\\w+\\.java)` \\|").matcher(readme);
        while (rows.find()) {
            told.add(rows.group(1));
        }
        TreeSet<String> there = new TreeSet<>();
        try (Stream<Path> tests = Files.list(Path.of("src/test/java"))) {
            tests.forEach(test -> there.add(test.toString()));
        }
        check("the table has each test: " + told + ", there are " + there, told.equals(there));
    }

    private static void files(String readme) {
        Matcher paths = Pattern.compile("`((?:src|\\.ci)/[^` ]*)`").matcher(readme);
        while (paths.find()) {
            check("there is " + paths.group(1), Files.exists(Path.of(paths.group(1))));
        }
        check(".ci/run can be run", Files.isExecutable(Path.of(".ci/run")));
    }
}
