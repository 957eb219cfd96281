import java.io.PrintWriter;
import java.io.StringWriter;
import java.nio.file.Files;
import java.nio.file.Path;
import java.util.ArrayList;
import java.util.HashMap;
import java.util.HashSet;
import java.util.List;
import java.util.Map;
import java.util.Set;
import java.util.TreeMap;
import java.util.TreeSet;
import java.util.regex.Matcher;
import java.util.regex.Pattern;
import java.util.spi.ToolProvider;
import java.util.stream.Stream;

/**
 * Calls that are no recursion go at most eight deep, the library's counted too; and nothing is made
 * outside constructors, so that a run of calls stays in its room. Both are read from the compiled
 * class, so all methods are seen.
 */
public final class DepthTest {
    private static final Due DUE = new Due("DepthTest");
    private static final int DEEPEST = 8;
    private static final Pattern METHOD = Pattern.compile("  (?:\\S.*[ ])?([\\w$.]+)\\(.*\\);");
    private static final Pattern CALL = Pattern.compile(".*invoke.*Method ([^:]+):.*");
    private static final Pattern MAKES = Pattern.compile(" +\\d+: (new|newarray|anewarray|multianewarray|invokedynamic)\\b.*");

    private static final Map<String, Set<String>> CALLS = new TreeMap<>();

    public static void main(String[] args) throws Exception {
        if (ToolProvider.findFirst("javap").isEmpty()) {
            System.out.println("DepthTest: this Java has no javap, so it can't be seen how deep calls go");
            return;
        }
        readCalls();
        DUE.yes("methods are seen", CALLS.size() > 150);
        Set<String> recursive = new TreeSet<>();
        for (String method : CALLS.keySet()) {
            if (reached(method).contains(method)) {
                recursive.add(method.substring(method.indexOf('.') + 1));
            }
        }
        // Who calls itself again is few: each has a guard on its depth.
        DUE.yes("recursive are " + recursive, recursive.equals(Set.of("ways", "spread", "joinOne", "readTest",
            "readBoth", "readPlain", "readInner", "readComparison", "readSum", "readTerm", "readPart")));
        for (String method : CALLS.keySet()) {
            List<String> way = deepest(method, new HashMap<>());
            DUE.yes("rule 11: " + way, way.size() <= DEEPEST);
        }
        DUE.finish();
    }

    private static void readCalls() throws Exception {
        Path home = Path.of(HullEars.class.getProtectionDomain().getCodeSource().getLocation().toURI());
        try (Stream<Path> files = Files.list(home)) {
            for (Path file : files.sorted().toList()) {
                String name = file.getFileName().toString();
                if (name.matches("HullEars(\\$\\w+)?\\.class")) {
                    readClass(file.toString(), name.replace(".class", ""));
                }
            }
        }
    }

    private static void readClass(String file, String owner) {
        StringWriter told = new StringWriter();
        PrintWriter out = new PrintWriter(told);
        ToolProvider.findFirst("javap").orElseThrow().run(out, out, "-c", "-p", file);
        Set<String> now = new HashSet<>();
        String name = "";
        for (String line : told.toString().split("\\R")) {
            Matcher method = METHOD.matcher(line);
            Matcher call = CALL.matcher(line);
            if (method.matches()) {
                name = method.group(1).equals(owner) ? "<init>" : method.group(1);
                now = CALLS.computeIfAbsent(owner + "." + name, k -> new TreeSet<>());
            } else if (call.matches()) {
                String called = call.group(1).replace("\"", "");
                now.add(called.contains(".") ? called : owner + "." + called);
            } else if (line.contains("static {}")) {
                name = "<clinit>";
            }
            boolean mayMake = name.equals("<init>") || name.equals("<clinit>");
            DUE.yes("made outside constructors: " + owner + "." + name + line, mayMake || !MAKES.matcher(line).matches());
        }
    }

    private static Set<String> reached(String method) {
        Set<String> found = new HashSet<>();
        List<String> open = new ArrayList<>(CALLS.getOrDefault(method, Set.of()));
        for (int i = 0; i < open.size(); i++) {
            if (found.add(open.get(i))) {
                open.addAll(CALLS.getOrDefault(open.get(i), Set.of()));
            }
        }
        return found;
    }

    /** The deepest way down from a method; those that call one another again are one step of it. */
    private static List<String> deepest(String method, Map<String, List<String>> known) {
        if (known.containsKey(method)) {
            return known.get(method);
        }
        List<String> below = List.of();
        Set<String> own = new HashSet<>(Set.of(method));
        for (String other : reached(method)) {
            if (reached(other).contains(method)) {
                own.add(other);
            }
        }
        for (String one : own) {
            for (String called : CALLS.getOrDefault(one, Set.of())) {
                if (!own.contains(called)) {
                    List<String> way = deepest(called, known);
                    below = way.size() > below.size() ? way : below;
                }
            }
        }
        List<String> found = new ArrayList<>(List.of(method));
        found.addAll(below);
        known.put(method, found);
        return found;
    }
}
