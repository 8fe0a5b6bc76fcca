import java.io.PrintWriter;
import java.io.StringWriter;
import java.nio.file.Files;
import java.nio.file.Path;
import java.util.ArrayList;
import java.util.HashSet;
import java.util.List;
import java.util.Map;
import java.util.Set;
import java.util.TreeMap;
import java.util.TreeSet;
import java.util.regex.Matcher;
import java.util.regex.Pattern;
import java.util.spi.ToolProvider;
import java.util.stream.Stream;

/** Looks in the compiled class for the chains of calls that LANGUAGE.md limits (rules 8 and 11). */
public final class DepthTest {
    private static final Path CLASSES = Path.of("build/main");
    private static final int MOST = 8;
    // Only the reading of a right side may call itself: its depth is carried as an argument.
    private static final Set<String> RECURSIVE = Set.of("LagSolver$Text.readSum", "LagSolver$Text.readTerm",
            "LagSolver$Text.readUnit", "LagSolver$Text.readBareUnit", "LagSolver$Text.readLeastOrMost");
    private static final Pattern METHOD = Pattern.compile("^  (?:[\\w\\[\\]$. ]+ )?([\\w$.]+)\\(.*\\);$");
    private static final Pattern CALL = Pattern.compile("invoke\\w+ .*// (?:Interface)?Method ([^:]+):");

    private final Map<String, Set<String>> calls = new TreeMap<>();
    private final Tally tally = new Tally();

    public static void main(String[] args) throws Exception {
        new DepthTest().run();
    }

    private void run() throws Exception {
        if (ToolProvider.findFirst("javap").isEmpty()) {
            System.out.println("DepthTest: this Java has no javap, so nothing is looked at");
            return;
        }
        read();
        Set<String> recursive = new TreeSet<>();
        for (String method : calls.keySet()) {
            if (reachable(method).contains(method)) {
                recursive.add(method);
            }
        }
        tally.due("methods that call themselves: " + recursive, recursive.equals(RECURSIVE) ? 1 : 0, 1);
        int deepest = 0;
        for (String method : calls.keySet()) {
            List<String> chain = longest(method, recursive);
            deepest = Math.max(deepest, chain.size());
            if (chain.size() > MOST) {
                tally.fail("calls " + chain.size() + " deep: " + chain);
            }
        }
        tally.due("the chains are found", deepest > 4 && calls.size() > 80 ? 1 : 0, 1);
        tally.end("DepthTest");
    }

    private void read() throws Exception {
        ToolProvider javap = ToolProvider.findFirst("javap").orElseThrow();
        List<Path> files;
        try (Stream<Path> all = Files.list(CLASSES)) {
            files = all.sorted().toList();
        }
        for (Path file : files) {
            StringWriter told = new StringWriter();
            PrintWriter writer = new PrintWriter(told);
            javap.run(writer, writer, "-p", "-c", file.toString());
            writer.flush();
            readClass(file.getFileName().toString().replace(".class", ""), told.toString());
        }
    }

    private void readClass(String name, String told) {
        Set<String> made = new TreeSet<>();
        for (String line : told.split("\\R")) {
            Matcher method = METHOD.matcher(line);
            if (method.find()) {
                String own = method.group(1).equals(name) ? "<init>" : method.group(1);
                made = calls.computeIfAbsent(name + "." + own, key -> new TreeSet<>());
            }
            Matcher call = CALL.matcher(line);
            if (call.find()) {
                String called = call.group(1).replace("\"", "");
                made.add(called.contains(".") ? called : name + "." + called);
            }
        }
    }

    private Set<String> reachable(String from) {
        Set<String> found = new HashSet<>();
        List<String> open = new ArrayList<>(List.of(from));
        while (!open.isEmpty()) {
            for (String called : calls.getOrDefault(open.remove(open.size() - 1), Set.of())) {
                if (found.add(called)) {
                    open.add(called);
                }
            }
        }
        return found;
    }

    private List<String> longest(String method, Set<String> recursive) {
        List<String> best = List.of();
        for (String called : calls.getOrDefault(method, Set.of())) {
            if (recursive.contains(method) && recursive.contains(called)) {
                continue;
            }
            List<String> chain = longest(called, recursive);
            if (chain.size() > best.size()) {
                best = chain;
            }
        }
        List<String> whole = new ArrayList<>(List.of(method));
        whole.addAll(best);
        return whole;
    }
}
