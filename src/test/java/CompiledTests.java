import java.util.List;
import java.util.Map;
import java.util.Set;

/** The rules of LANGUAGE.md that are told by what the compiled program calls, makes and divides. */
public final class CompiledTests {
    private static final Bench B = new Bench();

    private static final Set<String> LIBRARY = Set.of(
        "java/lang/Object.<init>:()V", "java/lang/Math.abs:(I)I", "java/lang/Math.max:(II)I",
        "java/lang/Math.min:(II)I", "java/lang/Integer.bitCount:(I)I", "java/lang/Long.bitCount:(J)I",
        "java/util/Arrays.fill:([II)V", "java/util/Arrays.fill:([JJ)V",
        "java/lang/System.arraycopy:(Ljava/lang/Object;ILjava/lang/Object;II)V");

    private static final Map<Integer, String> NOT_ALLOWED = Map.of(
        186, "invokedynamic", 191, "athrow", 192, "checkcast", 193, "instanceof", 194, "monitorenter",
        195, "monitorexit", 197, "multianewarray");
    private static final Map<Integer, String> MAKES = Map.of(187, "new", 188, "newarray", 189, "anewarray");
    private static final Map<Integer, String> DIVIDES = Map.of(108, "idiv", 109, "ldiv", 112, "irem", 113, "lrem");

    /** Each of these carries how deep it is, and refuses to go deeper than the document lets it. */
    private static final Set<String> RECURSIVE = Set.of(
        "PutOffWicks$Law.readCondition:(I)V", "PutOffWicks$Law.readTest:(I)V", "PutOffWicks$Law.readValue:(I)V",
        "PutOffWicks$Law.readFactor:(I)V", "PutOffWicks$Waits.canEnd:(II)Z");

    /** The first two look at their divisor, the others divide by a number that is written there. */
    private static final Set<String> DIVIDING = Set.of(
        "PutOffWicks$Reckoner.joined:(III)I", "PutOffWicks$Parish.ordersLeft:()I", "PutOffWicks$Parish.draw:()I",
        "PutOffWicks$Parish.middlePutOff:()I", "PutOffWicks$Reckoner.fact:(I)I", "PutOffWicks$Shore.fillView:(I)V",
        "PutOffWicks.check:(I)I");

    public static void main(String[] args) throws Exception {
        Compiled program = Compiled.program();
        B.due("methods are found", program.calls.size() > 100, true);
        libraryIsListed(program);
        instructionsAreAllowed(program);
        recursionIsKnown(program);
        callsStayEightDeep(program);
        B.end();
    }

    private static void libraryIsListed(Compiled program) {
        B.of("4: The library: only what stands here");
        for (Map.Entry<String, Set<String>> method : program.calls.entrySet()) {
            for (String called : method.getValue()) {
                boolean known = program.isOwn(called) || LIBRARY.contains(called);
                B.due(method.getKey() + " calls " + called, known, true);
            }
        }
    }

    private static void instructionsAreAllowed(Compiled program) {
        B.of("6: No throw, synchronized; 7: a divisor before it divides; 12: rows are made by constructors");
        int many = 0;
        for (Map.Entry<String, List<Integer>> method : program.instructions.entrySet()) {
            String name = method.getKey();
            for (int step : method.getValue()) {
                boolean makes = MAKES.containsKey(step) && !name.contains(".<init>:");
                boolean divides = DIVIDES.containsKey(step) && !DIVIDING.contains(name);
                B.due(name + " has " + NOT_ALLOWED.get(step), NOT_ALLOWED.containsKey(step), false);
                B.due(name + " makes by " + MAKES.get(step), makes, false);
                B.due(name + " divides by " + DIVIDES.get(step), divides, false);
                many++;
            }
        }
        B.due("instructions are found", many > 3000, true);
    }

    private static void recursionIsKnown(Compiled program) {
        B.of("8: Recursion: a guard on the depth");
        for (String name : program.thatCallThemselves()) {
            B.due(name + " calls itself", RECURSIVE.contains(name), true);
        }
        B.due("all that call themselves", program.thatCallThemselves().size(), RECURSIVE.size());
    }

    private static void callsStayEightDeep(Compiled program) {
        B.of("11: calls that are no recursion go at most eight deep");
        for (String name : program.calls.keySet()) {
            List<String> row = program.deepest(name);
            B.due(row + " is too deep", row.size() > 8, false);
        }
    }
}
