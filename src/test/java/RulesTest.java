import java.lang.reflect.Member;
import java.lang.reflect.Modifier;
import java.nio.charset.StandardCharsets;
import java.nio.file.Files;
import java.nio.file.Path;
import java.util.ArrayList;
import java.util.Arrays;
import java.util.List;
import java.util.Set;
import java.util.TreeSet;
import java.util.regex.Matcher;
import java.util.regex.Pattern;

/** Looks for what LANGUAGE.md rules out in src/main/java/LagSolver.java, as far as a text shows it. */
public final class RulesTest {
    private static final Path SOURCE = Path.of("src/main/java/LagSolver.java");
    private static final Set<String> METHODS = Set.of("type", "wipe", "fault", "right", "delay", "point",
            "clear", "set", "lag", "breakAt", "solve", "value", "slope", "rightAt", "step", "crossing",
            "greatest", "differs", "count", "undo", "save", "restore");
    private static final Set<String> CONSTANTS =
            Set.of("INVALID_ARGUMENT", "NOT_POSSIBLE", "LIMIT_REACHED", "NOT_FOUND");
    private static final Tally TALLY = new Tally();

    public static void main(String[] args) throws Exception {
        String raw = Files.readString(SOURCE, StandardCharsets.ISO_8859_1);
        String code = withoutCommentsAndSigns(raw);
        face();
        words(code);
        classes();
        methods(code);
        for (char c : raw.toCharArray()) {
            if (c > 126) TALLY.fail("a sign above 126");
        }
        TALLY.end("RulesTest");
    }

    private static void face() {
        TALLY.part("face");
        Class<?> c = LagSolver.class;
        TALLY.due("final", Modifier.isFinal(c.getModifiers()) ? 1 : 0, 1);
        TALLY.due("constructors", c.getDeclaredConstructors().length, 1);
        TALLY.due("methods", names(c.getDeclaredMethods()).equals(new TreeSet<>(METHODS)) ? 1 : 0, 1);
        TALLY.due("fields", names(c.getDeclaredFields()).equals(new TreeSet<>(CONSTANTS)) ? 1 : 0, 1);
        for (Class<?> inner : c.getDeclaredClasses()) {
            TALLY.due("static " + inner, Modifier.isStatic(inner.getModifiers()) ? 1 : 0, 1);
            TALLY.due("private " + inner, Modifier.isPrivate(inner.getModifiers()) ? 1 : 0, 1);
            for (Member m : inner.getDeclaredMethods()) {
                if (METHODS.contains(m.getName())) TALLY.fail("a public name inside: " + m.getName());
            }
        }
    }

    private static Set<String> names(Member[] members) {
        Set<String> names = new TreeSet<>();
        for (Member m : members) {
            if (!Modifier.isPrivate(m.getModifiers())) {
                if (!Modifier.isPublic(m.getModifiers())) TALLY.fail("not public: " + m.getName());
                names.add(m.getName());
            } else if (METHODS.contains(m.getName()) && m instanceof java.lang.reflect.Method) {
                TALLY.fail("private with a public name: " + m.getName());
            }
        }
        return names;
    }

    private static void words(String code) {
        TALLY.part("words");
        String[] none = {"package", "import", "throw", "throws", "try", "catch", "finally", "assert",
            "synchronized", "volatile", "transient", "native", "protected", "goto", "var", "yield",
            "float", "double", "instanceof", "super", "Object", "new\\s+Integer", "Random", "Thread"};
        for (String word : none) {
            if (Pattern.compile("\\b" + word + "\\b").matcher(code).find()) TALLY.fail("word " + word);
        }
        for (String sign : new String[] {"->", "::", "@", "\"", "Exact", "static {", "while (true", "for (;;"}) {
            if (code.contains(sign)) TALLY.fail("sign " + sign);
        }
        Set<String> own = new TreeSet<>(List.of("LagSolver", "Math", "System"));
        Matcher m = Pattern.compile("\\bclass (\\w+)").matcher(code);
        while (m.find()) own.add(m.group(1));
        m = Pattern.compile("\\b[A-Z][a-z]\\w*").matcher(code);
        while (m.find()) TALLY.due("a name of " + m.group(), own.contains(m.group()) ? 1 : 0, 1);
        m = Pattern.compile("\\b(Math|System)\\.(\\w+)").matcher(code);
        Set<String> library = Set.of("Math.min", "Math.max", "Math.abs", "System.arraycopy");
        while (m.find()) TALLY.due("library " + m.group(), library.contains(m.group()) ? 1 : 0, 1);
    }

    private static void classes() {
        TALLY.part("classes");
        List<Class<?>> all = new ArrayList<>(List.of(LagSolver.class));
        all.addAll(List.of(LagSolver.class.getDeclaredClasses()));
        TALLY.due("few classes", all.size() <= 12 ? 1 : 0, 1);
        for (Class<?> c : all) {
            long fields = Arrays.stream(c.getDeclaredFields())
                    .filter(f -> !Modifier.isStatic(f.getModifiers())).count();
            TALLY.due(c.getName() + " has few fields", fields <= 20 ? 1 : 0, 1);
            TALLY.due(c.getName() + " has none inside", c != LagSolver.class && c.getDeclaredClasses().length > 0 ? 1 : 0, 0);
            Arrays.stream(c.getDeclaredFields())
                    .filter(f -> Modifier.isStatic(f.getModifiers()) && !Modifier.isFinal(f.getModifiers()))
                    .forEach(f -> TALLY.fail("static, but not final: " + f));
        }
    }

    private static void methods(String code) {
        TALLY.part("methods");
        Matcher m = Pattern.compile("\\n {4,8}[\\w\\[\\] ]*?(\\w+)\\(([^()]*)\\) \\{").matcher(code);
        int count = 0;
        while (m.find()) {
            count++;
            List<String> arguments = new ArrayList<>(Arrays.asList(m.group(2).split(",")));
            TALLY.due(m.group(1) + " takes few", arguments.size() <= 7 ? 1 : 0, 1);
            int lines = body(code, m.end() - 1).split("\n").length;
            TALLY.due(m.group(1) + " is short", lines <= 60 ? 1 : 0, 1);
        }
        TALLY.due("methods found", count > 60 ? 1 : 0, 1);
    }

    /** The text from the next brace to the one that closes it. */
    private static String body(String code, int from) {
        int begin = code.indexOf('{', from);
        int open = 0;
        for (int i = begin; i < code.length(); i++) {
            if (code.charAt(i) == '{') open++;
            if (code.charAt(i) == '}' && --open == 0) return code.substring(begin, i + 1);
        }
        return code.substring(begin);
    }

    private static String withoutCommentsAndSigns(String raw) {
        return raw.replaceAll("(?s)/\\*.*?\\*/", " ").replaceAll("//[^\n]*", " ")
                .replaceAll("'(\\\\.|[^'])'", "0");
    }
}
