import java.io.File;
import java.io.IOException;
import java.io.PrintWriter;
import java.io.StringWriter;
import java.nio.file.Files;
import java.nio.file.Path;
import java.util.ArrayList;
import java.util.List;
import java.util.Map;
import java.util.Optional;
import java.util.Set;
import java.util.TreeMap;
import java.util.TreeSet;
import java.util.regex.Matcher;
import java.util.regex.Pattern;
import java.util.spi.ToolProvider;
import java.util.stream.Stream;

/** The rules of LANGUAGE.md that can be seen in the machine's code: the library, what throws or makes objects, how deep calls go. */
public final class CallTest {
    private static final Due DUE = new Due();
    /** Of what rule 4 lists, what the class uses. */
    private static final Set<String> LIBRARY = Set.of("java/lang/Object.<init>", "java/lang/String.length",
        "java/lang/String.charAt", "java/lang/Math.max", "java/lang/Math.min", "java/lang/Integer.bitCount",
        "java/lang/System.arraycopy");
    private static final Set<String> RECURSION = Set.of("EelThroat$Rule.readTest", "EelThroat$Rule.readPart",
        "EelThroat$Rule.readFact");
    private static final int DEEPEST = 8;
    private static final Pattern HEAD = Pattern.compile("(?:\\w+ )*class ([\\w$]+) .*\\{");
    private static final Pattern METHOD = Pattern.compile("  (?! )(?:.* )?([\\w$]+)\\([^)]*\\);");
    private static final Pattern CALL = Pattern.compile("// (?:Interface)?Method (?:([\\w$/]+)\\.)?\"?([\\w<>]+)\"?:");

    private final Map<String, Set<String>> calls = new TreeMap<>();

    public static void main(String[] args) throws IOException {
        Optional<ToolProvider> javap = ToolProvider.findFirst("javap");
        if (javap.isEmpty()) {
            System.out.println("CallTest: this machine has no javap");
            return;
        }
        CallTest test = new CallTest();
        test.read(code(javap.get()));
        DUE.is("methods are found", test.calls.containsKey("EelThroat.feed") && test.calls.size() > 100 ? 1 : 0, 1);
        for (String method : test.calls.keySet()) {
            DUE.is(method + " goes deeper than " + DEEPEST, Math.max(DEEPEST, test.depth(method, 0)), DEEPEST);
            boolean again = test.reached(method).contains(method);
            DUE.is(method + " comes to itself", again ? 1 : 0, RECURSION.contains(method) ? 1 : 0);
        }
        DUE.close("CallTest");
    }

    private static String code(ToolProvider javap) throws IOException {
        List<String> args = new ArrayList<>(List.of("-p", "-c"));
        for (String room : System.getProperty("java.class.path").split(File.pathSeparator)) {
            try (Stream<Path> files = Files.list(Path.of(room))) {
                files.map(Path::toString).filter(f -> f.matches(".*[/\\\\]EelThroat(\\$\\w+)?\\.class")).forEach(args::add);
            }
        }
        StringWriter text = new StringWriter();
        javap.run(new PrintWriter(text), new PrintWriter(text), args.toArray(new String[0]));
        return text.toString();
    }

    private void read(String code) {
        String inside = "";
        String method = "";
        for (String line : code.split("\\R")) {
            Matcher head = HEAD.matcher(line);
            Matcher begun = METHOD.matcher(line);
            if (head.matches()) {
                inside = head.group(1);
            } else if (begun.matches()) {
                method = inside + "." + (begun.group(1).equals(inside) ? "<init>" : begun.group(1));
                calls.putIfAbsent(method, new TreeSet<>());
            } else {
                look(inside, method, line);
            }
        }
    }

    private void look(String inside, String method, String line) {
        Matcher call = CALL.matcher(line);
        if (call.find()) {
            String to = (call.group(1) == null ? inside : call.group(1)) + "." + call.group(2);
            if (to.startsWith("EelThroat")) {
                calls.get(method).add(to);
            } else {
                DUE.is(method + " calls " + to + ", which is listed", LIBRARY.contains(to) ? 1 : 0, 1);
            }
        }
        if (line.matches("\\s+\\d+: (new|newarray|anewarray|multianewarray)\\b.*")) {
            DUE.is(method + " makes an object, so it is a constructor", method.endsWith(".<init>") ? 1 : 0, 1);
        }
        boolean strays = line.matches("\\s+\\d+: (athrow|checkcast|monitorenter|invokedynamic)\\b.*")
            || line.contains("Exception table:") || line.contains("static {}");
        if (strays) {
            DUE.is(method + " has '" + line.trim() + "'", 1, 0);
        }
    }

    /** How deep calls go, from 1; what calls itself counts as one, however often. */
    private int depth(String method, int above) {
        // Deeper than this is wrong anyway, and must end.
        if (above > 2 * DEEPEST) {
            return 1;
        }
        int most = 0;
        for (String to : outward(method)) {
            most = Math.max(most, depth(to, above + 1));
        }
        return 1 + most;
    }

    /** What a method calls; of a recursion, what all its methods call outside it. */
    private Set<String> outward(String method) {
        Set<String> to = new TreeSet<>(calls.getOrDefault(method, Set.of()));
        if (RECURSION.contains(method)) {
            for (String other : RECURSION) {
                to.addAll(calls.getOrDefault(other, Set.of()));
            }
            to.removeAll(RECURSION);
        }
        return to;
    }

    private Set<String> reached(String method) {
        Set<String> seen = new TreeSet<>();
        List<String> left = new ArrayList<>(calls.getOrDefault(method, Set.of()));
        while (!left.isEmpty()) {
            String next = left.remove(left.size() - 1);
            if (seen.add(next)) {
                left.addAll(calls.getOrDefault(next, Set.of()));
            }
        }
        return seen;
    }
}
