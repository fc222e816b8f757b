import java.io.PrintWriter;
import java.io.StringWriter;
import java.nio.file.Files;
import java.nio.file.Path;
import java.util.ArrayList;
import java.util.HashSet;
import java.util.List;
import java.util.Map;
import java.util.Optional;
import java.util.Set;
import java.util.TreeMap;
import java.util.TreeSet;
import java.util.regex.Matcher;
import java.util.regex.Pattern;
import java.util.spi.ToolProvider;
import java.util.stream.Stream;

/** What can be seen of the rules of LANGUAGE.md in the bytecode: who calls whom, how deep, and what is made where. */
public final class CompiledRulesTest {
    private static final int DEEPEST = 8;
    private static final Pattern CLASS = Pattern.compile("(?:\\w+ )*class (\\S+) \\{");
    private static final Pattern METHOD = Pattern.compile("  (?:[\\w$.\\[\\]]+ )*([\\w$.]+)\\(.*\\)(?: throws .*)?;");
    private static final Pattern FIRST = Pattern.compile(" +\\d+: (\\w+).*");
    private static final Pattern CALL = Pattern.compile(".*// (?:Interface)?Method ([\\w/$.\"<>]+):.*");
    private static final Set<String> LIBRARY = Set.of("java/lang/Object.<init>", "java/lang/Math.max",
            "java/lang/Math.min", "java/lang/Math.abs", "java/lang/Integer.bitCount", "java/lang/System.arraycopy",
            "java/util/Arrays.fill", "java/util/NoSuchElementException.<init>");
    private static final Set<String> FORBIDDEN = Set.of("invokedynamic", "invokeinterface", "checkcast", "instanceof",
            "monitorenter", "monitorexit", "multianewarray", "anewarray", "jsr", "ret");

    private static final Map<String, Set<String>> CALLS = new TreeMap<>();
    private static final Map<String, List<String>> STEPS = new TreeMap<>();

    private CompiledRulesTest() {
    }

    /** The lister of bytecode comes with javac; a machine that has none of it can't be looked at so. */
    public static void main(String[] args) throws Exception {
        Optional<ToolProvider> lister = ToolProvider.findFirst("javap");
        if (lister.isEmpty()) {
            System.out.println("CompiledRulesTest: nothing was looked at, as this machine lists no bytecode");
            return;
        }
        read(listing(lister.get()));
        depths();
        library();
        nothingIdle();
        making();
        Checks.end("CompiledRulesTest");
    }

    private static String listing(ToolProvider lister) throws Exception {
        Path place = Path.of(SteeringHouse.class.getProtectionDomain().getCodeSource().getLocation().toURI());
        List<String> words = new ArrayList<>(List.of("-p", "-c"));
        try (Stream<Path> files = Files.list(place)) {
            files.filter(file -> file.getFileName().toString().matches("SteeringHouse(\\$.*)?\\.class"))
                    .forEach(file -> words.add(file.toString()));
        }
        StringWriter text = new StringWriter();
        PrintWriter out = new PrintWriter(text);
        lister.run(out, out, words.toArray(new String[0]));
        out.flush();
        return text.toString();
    }

    private static void read(String listing) {
        String owner = "";
        String method = "";
        for (String line : listing.split("\n")) {
            Matcher header = CLASS.matcher(line);
            Matcher name = METHOD.matcher(line);
            Matcher first = FIRST.matcher(line);
            Matcher call = CALL.matcher(line);
            if (header.matches()) {
                owner = header.group(1);
            } else if (name.matches()) {
                method = owner + "." + (name.group(1).equals(owner) ? "<init>" : name.group(1));
                CALLS.putIfAbsent(method, new TreeSet<>());
                STEPS.putIfAbsent(method, new ArrayList<>());
            } else if (line.equals("  static {};")) {
                method = owner + ".<clinit>";
                CALLS.putIfAbsent(method, new TreeSet<>());
                STEPS.putIfAbsent(method, new ArrayList<>());
            } else if (first.matches()) {
                STEPS.get(method).add(first.group(1));
                if (call.matches()) {
                    String whom = call.group(1).replace("\"", "");
                    CALLS.get(method).add(whom.contains(".") ? whom : owner + "." + whom);
                }
            }
        }
        Checks.due("methods are seen (" + CALLS.size() + ")", CALLS.size() > 100, true);
    }

    private static void depths() {
        for (String method : CALLS.keySet()) {
            List<String> way = deepest(method, new HashSet<>());
            Checks.due("eight deep at most, the library's calls too: " + way, way.size() <= DEEPEST, true);
        }
    }

    private static List<String> deepest(String method, Set<String> above) {
        List<String> way = new ArrayList<>();
        boolean fresh = above.add(method);
        Checks.due(method + " calls itself", fresh, true);
        for (String each : fresh ? CALLS.getOrDefault(method, Set.of()) : Set.<String>of()) {
            List<String> deeper = deepest(each, above);
            if (deeper.size() > way.size()) {
                way = deeper;
            }
        }
        above.remove(method);
        way.add(0, method);
        return way;
    }

    private static void library() {
        CALLS.forEach((method, all) -> all.forEach(each -> Checks.due(method + " calls " + each,
                CALLS.containsKey(each) || LIBRARY.contains(each), true)));
        STEPS.forEach((method, all) -> all.forEach(each -> {
            Checks.due(method + " has " + each, FORBIDDEN.contains(each), false);
            Checks.due(method + " has a number with a point: " + each, each.matches("[df](add|sub|mul|div|rem|neg)"
                    + "|[ilfd]2[fd]|[df]2[il]"), false);
            Checks.due(method + " throws", each.equals("athrow") && !method.equals("SteeringHouse.worst"), false);
        }));
    }

    /** Every method is called from the face, however far behind it. */
    private static void nothingIdle() {
        Set<String> used = new TreeSet<>(Set.of("SteeringHouse.<init>"));
        for (java.lang.reflect.Method each : SteeringHouse.class.getMethods()) {
            used.add("SteeringHouse." + each.getName());
        }
        List<String> left = new ArrayList<>(used);
        while (!left.isEmpty()) {
            for (String each : CALLS.getOrDefault(left.remove(0), Set.of())) {
                if (used.add(each)) {
                    left.add(each);
                }
            }
        }
        for (String method : CALLS.keySet()) {
            Checks.due(method + " is called", used.contains(method) || method.endsWith(".<clinit>"), true);
        }
    }

    /** Rows are made as the house is, or where they grow; parts as the house is. */
    private static void making() {
        STEPS.forEach((method, all) -> {
            boolean building = method.endsWith(".<init>") || method.endsWith(".<clinit>");
            boolean row = building || method.equals("SteeringHouse.longEnough");
            boolean part = building || method.equals("SteeringHouse.worst");
            Checks.due(method + " makes a row", all.contains("newarray") && !row, false);
            Checks.due(method + " makes an object", all.contains("new") && !part, false);
        });
    }
}
