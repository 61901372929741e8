import java.lang.reflect.Field;
import java.lang.reflect.Method;
import java.lang.reflect.Modifier;
import java.nio.file.Files;
import java.nio.file.Path;
import java.util.Arrays;
import java.util.List;
import java.util.Set;
import java.util.TreeSet;
import java.util.regex.Matcher;
import java.util.regex.Pattern;

/** The rules of LANGUAGE.md that can be seen from the text and from the compiled class. */
public final class LanguageTests {
    private static final Bench B = new Bench();

    private static final String[] FACE = {
        "boolean lit(int,boolean)", "int feed(int,int,int,int,int)", "int law(int)", "int parish(int)",
        "int days(int)", "int tried(int,int)", "int thingIs(int,int)", "int byWhen(int,int)", "int dark(int)",
        "int pride(int)", "int oldest()", "int chain(int)", "int orders()", "int light(int)", "int worstNews(int)",
        "int median()", "int twist(int,int,int)", "int waiting(int,int)", "int spun(int,int)", "int night(int,int)",
        "int putsOff(int,int,boolean,int)", "int cord(int,int)", "int seen(int,int,int)",
        "int brightest(int,int,int)", "int halves(int,int)", "int forgiven(int)", "boolean seed(int)", "int keep()",
        "boolean undo()", "int check(int)", "int count(int)"
    };

    private static final String[] NOT_ALLOWED = {
        "\\bthrow\\b", "\\bthrows\\b", "\\btry\\b", "\\bcatch\\b", "\\bfinally\\b", "\\bsynchronized\\b",
        "\\bassert\\b", "\\bprotected\\b", "\\bnative\\b", "\\bvolatile\\b", "->", "::", "Exact\\b", "\\bpackage\\b",
        "\\bObject\\b", "\\bThread\\b", "\\bSystem\\.(?!arraycopy)", "\\bMath\\.random\\b", "\\bString\\b", "\\bdouble\\b"
    };

    public static void main(String[] args) throws Exception {
        String source = Files.readString(Path.of("src/main/java/PutOffWicks.java"));
        faceIsTheDocuments();
        namesAreNotUsedAgain();
        staticsAreConstants();
        String code = source.replaceAll("(?s)/\\*.*?\\*/", "").replaceAll("//.*", "");
        for (String pattern : NOT_ALLOWED) {
            Matcher matcher = Pattern.compile(pattern).matcher(code);
            B.due("the source without " + pattern, matcher.find(), false);
        }
        B.due("plain signs alone", source.chars().allMatch(c -> c == '\n' || c >= 32 && c < 127), true);
        B.due("imports", code.replace("import java.util.Arrays;", "").contains("import"), false);
        B.due("classes", PutOffWicks.class.getDeclaredClasses().length <= 11, true);
        methodsAreShort(source.split("\n"));
        B.end();
    }

    private static void faceIsTheDocuments() throws Exception {
        Set<String> want = new TreeSet<>(Arrays.asList(FACE));
        Set<String> got = new TreeSet<>();
        for (Method method : PutOffWicks.class.getDeclaredMethods()) {
            if (!Modifier.isPrivate(method.getModifiers())) {
                String types = Arrays.toString(method.getParameterTypes()).replaceAll("[\\[\\] ]", "");
                got.add(method.getReturnType() + " " + method.getName() + "(" + types + ")");
            }
        }
        B.due("the face " + got, got.equals(want), true);
        B.due("one constructor", PutOffWicks.class.getDeclaredConstructors().length, 1);
        B.due("a public one", PutOffWicks.class.getConstructors().length, 1);
        B.due("the class", PutOffWicks.class.getModifiers(), Modifier.PUBLIC | Modifier.FINAL);
        for (Field field : PutOffWicks.class.getDeclaredFields()) {
            boolean open = !Modifier.isPrivate(field.getModifiers());
            B.due("field " + field, open, field.getName().equals("NONE"));
        }
    }

    private static void namesAreNotUsedAgain() {
        List<String> face = Arrays.stream(FACE).map(f -> f.replaceAll("\\w+ (\\w+)\\(.*", "$1")).toList();
        for (Class<?> inner : PutOffWicks.class.getDeclaredClasses()) {
            B.due("static " + inner, Modifier.isStatic(inner.getModifiers()), true);
            for (Method method : inner.getDeclaredMethods()) {
                B.due("the name of " + method, face.contains(method.getName()), false);
                B.due("parameters of " + method, method.getParameterCount() <= 7, true);
            }
        }
        for (Method method : PutOffWicks.class.getDeclaredMethods()) {
            boolean hidden = Modifier.isPrivate(method.getModifiers());
            B.due("the name of " + method, hidden && face.contains(method.getName()), false);
        }
    }

    private static void staticsAreConstants() {
        for (Class<?> inner : PutOffWicks.class.getDeclaredClasses()) {
            int own = 0;
            for (Field field : inner.getDeclaredFields()) {
                boolean stays = Modifier.isStatic(field.getModifiers());
                own += stays ? 0 : 1;
                B.due("constant " + field, stays && !Modifier.isFinal(field.getModifiers()), false);
            }
            B.due("fields of " + inner, own <= 20, true);
        }
    }

    private static void methodsAreShort(String[] lines) {
        int from = 0;
        for (int i = 0; i < lines.length; i++) {
            if (lines[i].matches("( {4}| {8})(\\w+ )+\\w+\\(.*\\{") || lines[i].matches("( {4}| {8})\\w+\\(.*\\) \\{")) {
                from = i;
            }
            if (lines[i].equals("    }") || lines[i].equals("        }")) {
                B.due("the method at line " + (from + 1), lines[from].contains("class") || i - from <= 60, true);
            }
            B.due("the width of line " + (i + 1), lines[i].length() <= 120, true);
        }
    }
}
