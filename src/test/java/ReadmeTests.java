import java.lang.reflect.Method;
import java.lang.reflect.Modifier;
import java.nio.file.Files;
import java.nio.file.Path;
import java.util.List;
import java.util.regex.Matcher;
import java.util.regex.Pattern;
import java.util.stream.Stream;

/** README.md names every call and every test, and its example answers as it says. */
public final class ReadmeTests {
    private static final Bench B = new Bench();
    private static final Pattern EXAMPLE = Pattern.compile("^wicks\\.(\\w+)\\(([^)]*)\\);\\s+// (-?\\d+|true|false)\\b.*$");

    public static void main(String[] args) throws Exception {
        List<String> lines = Files.readAllLines(Path.of("README.md"));
        everyCallIsNamed(String.join("\n", lines));
        everyTestIsNamed(String.join("\n", lines));
        exampleAnswers(lines);
        B.end();
    }

    private static void everyCallIsNamed(String readme) {
        B.of("README.md says how to use the class");
        for (Method method : PutOffWicks.class.getDeclaredMethods()) {
            if (Modifier.isPublic(method.getModifiers())) {
                String named = Pattern.quote(method.getName()) + "\\(([^)]*)\\)`";
                Matcher matcher = Pattern.compile("`" + named).matcher(readme);
                boolean found = matcher.find();
                B.due(method.getName() + " is named", found, true);
                if (found) {
                    String told = matcher.group(1);
                    int many = told.isEmpty() ? 0 : told.split(",").length;
                    B.due("arguments of " + method.getName(), many, method.getParameterCount());
                }
            }
        }
    }

    private static void everyTestIsNamed(String readme) throws Exception {
        B.of("README.md says how to run its tests");
        B.due("the script", readme.contains("`.ci/run`"), true);
        try (Stream<Path> tests = Files.list(Path.of("src/test/java"))) {
            for (Path test : tests.toList()) {
                String name = test.getFileName().toString().replace(".java", "");
                B.due(name, readme.contains("| `" + name + "` |"), true);
            }
        }
    }

    private static void exampleAnswers(List<String> lines) throws Exception {
        B.of("the example");
        PutOffWicks wicks = new PutOffWicks();
        for (String line : lines) {
            Matcher call = EXAMPLE.matcher(line);
            if (call.matches()) {
                B.due(line, answer(wicks, call.group(1), call.group(2)), call.group(3));
            } else {
                B.due("a call without its answer: " + line, line.startsWith("wicks."), false);
            }
        }
    }

    /** The example's calls have ints alone. */
    private static String answer(PutOffWicks wicks, String name, String told) throws Exception {
        String[] parts = told.isEmpty() ? new String[0] : told.split(", ");
        Class<?>[] types = new Class<?>[parts.length];
        Object[] values = new Object[parts.length];
        for (int i = 0; i < parts.length; i++) {
            types[i] = int.class;
            values[i] = Integer.decode(parts[i]);
        }
        return String.valueOf(PutOffWicks.class.getMethod(name, types).invoke(wicks, values));
    }
}
