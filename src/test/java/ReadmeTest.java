import java.io.IOException;
import java.lang.reflect.Method;
import java.net.URL;
import java.net.URLClassLoader;
import java.nio.file.Files;
import java.nio.file.Path;
import java.util.ArrayList;
import java.util.List;
import java.util.Map;
import java.util.Set;
import java.util.TreeMap;
import java.util.TreeSet;
import java.util.regex.Matcher;
import java.util.regex.Pattern;
import java.util.stream.Collectors;
import java.util.stream.Stream;
import javax.tools.JavaCompiler;
import javax.tools.ToolProvider;

/** What README.md says of use and of tests: its examples, its table of calls, its list of tests. */
public final class ReadmeTest {
    private static final Path README = Path.of("README.md");
    private static final Path SOURCES = Path.of("src/test/java");
    private static final Path BUILD = Path.of("build/readme");
    private static final Pattern BLOCK = Pattern.compile("(?s)```java\\n(.*?)```");
    private static final Pattern ANSWER =
            Pattern.compile("^solver\\.(\\w+\\(.*\\)); *// (-?\\d+|[A-Z_]+)(:.*)?$");
    private static final Pattern ROW = Pattern.compile("(?m)^\\| `(\\w+)\\(([^)]*)\\)` \\|");
    private static final Pattern COMMAND = Pattern.compile("(?m)^    (\\S.*)$");

    private static final Tally TALLY = new Tally();

    public static void main(String[] args) throws Exception {
        String page = Files.readString(README);
        examples(page);
        calls(page);
        constants(page);
        tests(page);
        commands(page);
        TALLY.end("ReadmeTest");
    }

    private static void examples(String page) throws Exception {
        Matcher block = BLOCK.matcher(page);
        int count = 0;
        while (block.find()) {
            count++;
            TALLY.part("example " + count);
            example("Example" + count, block.group(1));
        }
        TALLY.due("examples", count, 2);
    }

    /** Compiles an example, each call of which is asked whether it returns what stands behind it. */
    private static void example(String name, String text) throws Exception {
        StringBuilder code = new StringBuilder("public final class " + name + " {\n"
                + "static void due(String call, int got, int want) { if (got != want) throw new "
                + "IllegalStateException(call + \" answered \" + got + \", README.md says \" + want); }\n"
                + "public static void run() {\n");
        int answers = 0;
        for (String line : text.split("\n")) {
            Matcher answer = ANSWER.matcher(line);
            if (!answer.matches()) {
                TALLY.due("no answer behind " + line, line.startsWith("solver.") ? 1 : 0, 0);
                code.append(line).append('\n');
                continue;
            }
            answers++;
            String want = answer.group(2).matches("[A-Z_]+") ? "LagSolver." + answer.group(2) : answer.group(2);
            code.append("due(\"").append(answer.group(1)).append("\", solver.").append(answer.group(1))
                    .append(", ").append(want).append(");\n");
        }
        code.append("}\n}\n");
        TALLY.due("answers of " + name, answers > 10 ? 1 : 0, 1);
        run(name, code.toString());
    }

    private static void run(String name, String code) throws Exception {
        Files.createDirectories(BUILD);
        Path file = BUILD.resolve(name + ".java");
        Files.writeString(file, code);
        JavaCompiler compiler = ToolProvider.getSystemJavaCompiler();
        int failed = compiler.run(null, null, null, "-cp", "build/main", "-d", BUILD.toString(), file.toString());
        TALLY.due("compiling " + name, failed, 0);
        try (URLClassLoader loader = new URLClassLoader(new URL[] {BUILD.toUri().toURL()})) {
            loader.loadClass(name).getMethod("run").invoke(null);
        } catch (ReflectiveOperationException e) {
            TALLY.fail(name + ": " + (e.getCause() == null ? e : e.getCause()));
        }
    }

    private static void calls(String page) {
        TALLY.part("table of calls");
        Map<String, Integer> told = new TreeMap<>();
        Matcher row = ROW.matcher(page);
        while (row.find()) {
            told.put(row.group(1), row.group(2).isEmpty() ? 0 : row.group(2).split(", ").length);
        }
        Map<String, Integer> due = new TreeMap<>();
        for (Method method : LagSolver.class.getDeclaredMethods()) {
            if (java.lang.reflect.Modifier.isPublic(method.getModifiers())) {
                due.put(method.getName(), method.getParameterCount());
            }
        }
        TALLY.due("the calls " + told + ", there are " + due, told.equals(due) ? 1 : 0, 1);
    }

    private static void constants(String page) {
        TALLY.part("constants");
        for (String name : List.of("INVALID_ARGUMENT", "NOT_POSSIBLE", "LIMIT_REACHED", "NOT_FOUND")) {
            TALLY.due(name, page.contains("`" + name + "`") ? 1 : 0, 1);
        }
    }

    private static void tests(String page) throws IOException {
        TALLY.part("list of tests");
        Set<String> there;
        try (Stream<Path> files = Files.list(SOURCES)) {
            there = files.map(file -> file.getFileName().toString().replace(".java", ""))
                    .filter(name -> name.endsWith("Test")).collect(Collectors.toCollection(TreeSet::new));
        }
        Set<String> told = new TreeSet<>();
        Matcher name = Pattern.compile("`(\\w+Test)`").matcher(page);
        while (name.find()) {
            told.add(name.group(1));
        }
        TALLY.due("the tests " + told + ", there are " + there, told.equals(there) ? 1 : 0, 1);
    }

    /** The commands that stand on lines of their own: what they name is there. */
    private static void commands(String page) {
        TALLY.part("commands");
        List<String> commands = new ArrayList<>();
        Matcher command = COMMAND.matcher(page.replaceAll("(?s)```.*?```", ""));
        while (command.find()) {
            commands.add(command.group(1));
        }
        TALLY.due("commands", commands.size(), 5);
        for (String text : commands) {
            for (String word : text.split("[ :]")) {
                if (word.endsWith("Test")) {
                    TALLY.due(text, Files.exists(SOURCES.resolve(word + ".java")) ? 1 : 0, 1);
                } else if (word.startsWith("src/") || word.startsWith("build/") || word.startsWith(".ci/")) {
                    TALLY.due(text, Files.exists(Path.of(word)) ? 1 : 0, 1);
                }
            }
        }
        TALLY.due(".ci/run can be run", Files.isExecutable(Path.of(".ci/run")) ? 1 : 0, 1);
    }
}
