import java.io.PrintWriter;
import java.io.StringWriter;
import java.nio.file.Files;
import java.nio.file.Path;
import java.util.ArrayList;
import java.util.List;
import java.util.Map;
import java.util.Set;
import java.util.TreeMap;
import java.util.TreeSet;
import java.util.regex.Matcher;
import java.util.regex.Pattern;
import java.util.spi.ToolProvider;
import java.util.stream.Stream;

/** The methods of the compiled program: the instructions of each, and which calls which. */
final class Compiled {
    private static final Pattern CLASS = Pattern.compile("^\\S.*?\\bclass (PutOffWicks[\\w$]*).*\\{$");
    private static final Pattern HEAD = Pattern.compile("^  (?:\\S.* )?([\\w$]+)\\([^)]*\\);$");
    private static final Pattern DESCRIPTOR = Pattern.compile("^    descriptor: (\\(.*)$");
    private static final Pattern STEP = Pattern.compile("^ +\\d+: (\\w+).*$");
    private static final Pattern CALL = Pattern.compile("// (?:Interface)?Method (?:([\\w/$]+)\\.)?\"?([\\w<>]+)\"?:(\\S+)$");

    /** By the name of a method (class.method:descriptor), those that it calls. */
    final Map<String, Set<String>> calls = new TreeMap<>();
    final Map<String, List<String>> instructions = new TreeMap<>();

    private String inClass = "";
    private String head = "";
    private String method = "";

    static Compiled program() throws Exception {
        Compiled all = new Compiled();
        Path place = Path.of(PutOffWicks.class.getProtectionDomain().getCodeSource().getLocation().toURI());
        List<String> files;
        try (Stream<Path> found = Files.list(place)) {
            files = found.map(Path::toString).filter(f -> f.matches(".*\\bPutOffWicks(\\$\\w+)?\\.class")).sorted().toList();
        }
        for (String file : files) {
            StringWriter text = new StringWriter();
            PrintWriter out = new PrintWriter(text);
            ToolProvider javap = ToolProvider.findFirst("javap").orElseThrow();
            if (javap.run(out, out, "-p", "-c", "-s", file) != 0) {
                throw new IllegalStateException(text.toString());
            }
            for (String line : text.toString().split("\\R")) {
                all.read(line);
            }
        }
        return all;
    }

    private void read(String line) {
        Matcher isClass = CLASS.matcher(line);
        Matcher isHead = HEAD.matcher(line);
        Matcher isDescriptor = DESCRIPTOR.matcher(line);
        Matcher isStep = STEP.matcher(line);
        if (isClass.matches()) {
            inClass = isClass.group(1);
        } else if (isHead.matches()) {
            head = isHead.group(1).equals(inClass) ? "<init>" : isHead.group(1);
        } else if (isDescriptor.matches()) {
            method = inClass + "." + head + ":" + isDescriptor.group(1);
            calls.put(method, new TreeSet<>());
            instructions.put(method, new ArrayList<>());
        } else if (isStep.matches()) {
            instructions.get(method).add(isStep.group(1));
            Matcher isCall = CALL.matcher(line);
            if (isCall.find()) {
                String owner = isCall.group(1) == null ? inClass : isCall.group(1);
                calls.get(method).add(owner + "." + isCall.group(2) + ":" + isCall.group(3));
            }
        }
    }

    boolean isOwn(String name) {
        return calls.containsKey(name);
    }

    /** The methods that may be called again while they stand open. */
    Set<String> thatCallThemselves() {
        Set<String> found = new TreeSet<>();
        for (String name : calls.keySet()) {
            if (reach(name).contains(name)) {
                found.add(name);
            }
        }
        return found;
    }

    private Set<String> reach(String name) {
        Set<String> reached = new TreeSet<>();
        List<String> edge = new ArrayList<>(calls.get(name));
        for (int i = 0; i < edge.size(); i++) {
            if (reached.add(edge.get(i)) && isOwn(edge.get(i))) {
                edge.addAll(calls.get(edge.get(i)));
            }
        }
        return reached;
    }

    /** The longest row of methods of the program, each called by the one ahead, none twice. */
    List<String> deepest(String from) {
        return deepest(from, new ArrayList<>());
    }

    private List<String> deepest(String from, List<String> open) {
        open.add(from);
        List<String> longest = new ArrayList<>(open);
        for (String next : calls.get(from)) {
            if (isOwn(next) && !open.contains(next)) {
                List<String> row = deepest(next, open);
                longest = row.size() > longest.size() ? row : longest;
            }
        }
        open.remove(open.size() - 1);
        return longest;
    }
}
