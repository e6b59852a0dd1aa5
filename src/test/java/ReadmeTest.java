import java.io.File;
import java.io.IOException;
import java.lang.reflect.Method;
import java.lang.reflect.Modifier;
import java.net.URL;
import java.net.URLClassLoader;
import java.nio.file.Files;
import java.nio.file.Path;
import java.util.ArrayList;
import java.util.Comparator;
import java.util.List;
import java.util.Set;
import java.util.TreeSet;
import java.util.regex.Matcher;
import java.util.regex.Pattern;
import java.util.stream.Stream;
import javax.tools.JavaCompiler;
import javax.tools.ToolProvider;

/** What README.md says must be true: its lines of Java are compiled and run, and each answer told behind a call is due. */
public final class ReadmeTest {
    private static final Path README = Path.of("README.md");
    private static final Path TESTS = Path.of("src/test/java");
    private static final Pattern BLOCK = Pattern.compile("(?ms)^```java\n(.*?)^```$");
    private static final Pattern CALL = Pattern.compile("x\\.(\\w+)\\((.*)\\);\\s*// (-?\\d+)\\b( [A-Z]+)?.*");
    private static int asked = 0;
    private static int wrong = 0;

    public static void main(String[] args) throws Exception {
        String readme = Files.readString(README);
        List<String> lines = exampleOf(readme);
        names(lines);
        everyCallIsShown(lines);
        run(lines);
        refusals(readme);
        tests(readme);
        hold(Files.isExecutable(Path.of(".ci/run")), ".ci/run can be run");
        System.out.println(wrong == 0 ? asked + " answers and names, all as README.md says" : wrong + " are not as README.md says");
        if (wrong != 0) {
            System.exit(1);
        }
    }

    /** Called by the compiled example, too. */
    public static void due(String call, long got, long want) {
        asked++;
        if (got != want) {
            wrong++;
            System.out.println("README.md: " + call + " answered " + got + ", told is " + want);
        }
    }

    private static void hold(boolean holds, String what) {
        asked++;
        if (!holds) {
            wrong++;
            System.out.println("README.md: does not hold: " + what);
        }
    }

    private static List<String> exampleOf(String readme) {
        List<String> lines = new ArrayList<>();
        Matcher blocks = BLOCK.matcher(readme);
        while (blocks.find()) {
            lines.addAll(List.of(blocks.group(1).split("\n")));
        }
        hold(!lines.isEmpty(), "it has lines of Java");
        return lines;
    }

    /** Of what is told behind a call, a name of the face must be the name of that answer. */
    private static void names(List<String> lines) throws ReflectiveOperationException {
        for (String line : lines) {
            Matcher call = CALL.matcher(line);
            hold(call.matches() || !line.startsWith("x."), "an answer is told: " + line);
            if (call.matches() && call.group(4) != null) {
                due(line, StripsOfFour.class.getField(call.group(4).trim()).getInt(null), Long.parseLong(call.group(3)));
            }
            if (call.matches() && call.group(3).startsWith("-")) {
                hold(call.group(4) != null, "the answer is named: " + line);
            }
        }
    }

    private static void everyCallIsShown(List<String> lines) {
        Set<String> shown = new TreeSet<>();
        for (String line : lines) {
            Matcher call = CALL.matcher(line);
            if (call.matches()) {
                shown.add(call.group(1));
            }
        }
        for (Method m : StripsOfFour.class.getDeclaredMethods()) {
            hold(!Modifier.isPublic(m.getModifiers()) || shown.contains(m.getName()), "it shows how to use " + m.getName());
        }
    }

    private static String programOf(List<String> lines) {
        StringBuilder code = new StringBuilder("public final class ReadmeExample {\npublic static void run() {\n");
        for (String line : lines) {
            Matcher call = CALL.matcher(line);
            if (call.matches()) {
                String made = "x." + call.group(1) + "(" + call.group(2) + ")";
                String told = made.replace("\\", "\\\\").replace("\"", "\\\"");
                code.append("ReadmeTest.due(\"").append(told).append("\", ").append(made).append(", ").append(call.group(3)).append("L);\n");
            } else {
                code.append(line).append('\n');
            }
        }
        return code.append("}\n}\n").toString();
    }

    private static void run(List<String> lines) throws Exception {
        JavaCompiler compiler = ToolProvider.getSystemJavaCompiler();
        hold(compiler != null, "there is a compiler");
        if (compiler == null) {
            return;
        }
        Path made = Files.createTempDirectory("readme");
        try {
            Path source = Files.writeString(made.resolve("ReadmeExample.java"), programOf(lines));
            String classes = System.getProperty("java.class.path");
            int failed = compiler.run(null, null, null, "-d", made.toString(), "-cp", classes, "-proc:none", source.toString());
            due("its lines of Java, compiled,", failed, 0);
            if (failed == 0) {
                try (URLClassLoader loader = new URLClassLoader(new URL[] {made.toUri().toURL()})) {
                    loader.loadClass("ReadmeExample").getMethod("run").invoke(null);
                }
            }
        } finally {
            remove(made);
        }
    }

    private static void remove(Path made) throws IOException {
        try (Stream<Path> all = Files.walk(made)) {
            all.sorted(Comparator.reverseOrder()).map(Path::toFile).forEach(File::delete);
        }
    }

    private static void refusals(String readme) throws ReflectiveOperationException {
        Matcher rows = Pattern.compile("(?m)^\\| (-\\d+) \\| `([A-Z]+)` \\|").matcher(readme);
        int told = 0;
        while (rows.find()) {
            told++;
            due(rows.group(2), StripsOfFour.class.getField(rows.group(2)).getInt(null), Long.parseLong(rows.group(1)));
        }
        due("how many refusals", told, 4);
        hold(readme.contains("`NONE` (" + StripsOfFour.NONE + ")"), "NONE");
    }

    private static void tests(String readme) throws IOException {
        Set<String> there = new TreeSet<>();
        try (Stream<Path> files = Files.list(TESTS)) {
            files.forEach(f -> there.add(f.getFileName().toString().replace(".java", "")));
        }
        for (String name : there) {
            hold(readme.contains("`" + name + "`"), "it names " + name);
        }
        Matcher named = Pattern.compile("`(\\w+Test)`").matcher(readme);
        while (named.find()) {
            hold(there.contains(named.group(1)), "there is " + named.group(1));
        }
    }
}
