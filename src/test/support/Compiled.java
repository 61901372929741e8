import java.io.DataInputStream;
import java.io.IOException;
import java.nio.ByteBuffer;
import java.nio.file.Files;
import java.nio.file.Path;
import java.util.ArrayList;
import java.util.List;
import java.util.Map;
import java.util.Set;
import java.util.TreeMap;
import java.util.TreeSet;
import java.util.stream.Stream;

/** The methods of the compiled program, read from its class files: what each does and which calls which. */
final class Compiled {
    private static final int TABLE_SWITCH = 170;
    private static final int LOOKUP_SWITCH = 171;
    private static final int FIRST_CALL = 182;
    private static final int LAST_CALL = 185;
    private static final int WIDE = 196;
    private static final int IINC = 132;

    /** By the name of a method (class.method:descriptor), those that it calls. */
    final Map<String, Set<String>> calls = new TreeMap<>();
    /** By the name of a method, its instructions' numbers. */
    final Map<String, List<Integer>> instructions = new TreeMap<>();

    static Compiled program() throws Exception {
        Compiled all = new Compiled();
        Path place = Path.of(PutOffWicks.class.getProtectionDomain().getCodeSource().getLocation().toURI());
        try (Stream<Path> found = Files.list(place)) {
            for (Path file : found.sorted().toList()) {
                if (file.getFileName().toString().matches("PutOffWicks(\\$\\w+)?\\.class")) {
                    try (DataInputStream in = new DataInputStream(Files.newInputStream(file))) {
                        all.readClass(in);
                    }
                }
            }
        }
        return all;
    }

    private void readClass(DataInputStream in) throws IOException {
        in.skipNBytes(8);
        Pool pool = new Pool(in);
        in.skipNBytes(2);
        String name = pool.named(in.readUnsignedShort());
        in.skipNBytes(2);
        in.skipNBytes(2L * in.readUnsignedShort());
        int fields = in.readUnsignedShort();
        for (int i = 0; i < fields; i++) {
            in.skipNBytes(6);
            readAttributes(in, pool, null);
        }
        int methods = in.readUnsignedShort();
        for (int i = 0; i < methods; i++) {
            in.skipNBytes(2);
            String method = name + "." + pool.text(in.readUnsignedShort()) + ":" + pool.text(in.readUnsignedShort());
            calls.put(method, new TreeSet<>());
            instructions.put(method, new ArrayList<>());
            readAttributes(in, pool, method);
        }
    }

    private void readAttributes(DataInputStream in, Pool pool, String method) throws IOException {
        int many = in.readUnsignedShort();
        for (int i = 0; i < many; i++) {
            String kind = pool.text(in.readUnsignedShort());
            ByteBuffer bytes = ByteBuffer.wrap(in.readNBytes(in.readInt()));
            if (method != null && kind.equals("Code")) {
                byte[] code = new byte[bytes.getInt(4)];
                bytes.position(8).get(code);
                readCode(ByteBuffer.wrap(code), pool, method);
            }
        }
    }

    private void readCode(ByteBuffer code, Pool pool, String method) {
        for (int at = 0; at < code.limit(); at += size(code, at)) {
            int step = code.get(at) & 255;
            instructions.get(method).add(step);
            if (step >= FIRST_CALL && step <= LAST_CALL) {
                calls.get(method).add(pool.called(code.getShort(at + 1) & 65535));
            }
        }
    }

    /** How many bytes the instruction at a place has, its operands with it. */
    private static int size(ByteBuffer code, int at) {
        int step = code.get(at) & 255;
        int operands = at + 4 - at % 4;
        if (step == TABLE_SWITCH) {
            return operands + 12 + 4 * (code.getInt(operands + 8) - code.getInt(operands + 4) + 1) - at;
        }
        if (step == LOOKUP_SWITCH) {
            return operands + 8 + 8 * code.getInt(operands + 4) - at;
        }
        if (step == WIDE) {
            return (code.get(at + 1) & 255) == IINC ? 6 : 4;
        }
        if (step == 16 || step == 18 || step >= 21 && step <= 25 || step >= 54 && step <= 58 || step == 169 || step == 188) {
            return 2;
        }
        if (step == 185 || step == 186 || step == 200 || step == 201) {
            return 5;
        }
        if (step == 197) {
            return 4;
        }
        boolean two = step == 17 || step == 19 || step == 20 || step == IINC || step >= 153 && step <= 168
            || step >= 178 && step <= 184 || step == 187 || step == 189 || step == 192 || step == 193
            || step == 198 || step == 199;
        return two ? 3 : 1;
    }

    boolean isOwn(String name) {
        return calls.containsKey(name);
    }

    /** The methods that may be called again while they stand open. */
    Set<String> thatCallThemselves() {
        Set<String> found = new TreeSet<>();
        for (String name : calls.keySet()) {
            if (reach(name).contains(name)) {
                found.add(name);
            }
        }
        return found;
    }

    private Set<String> reach(String name) {
        Set<String> reached = new TreeSet<>();
        List<String> edge = new ArrayList<>(calls.get(name));
        for (int i = 0; i < edge.size(); i++) {
            if (reached.add(edge.get(i)) && isOwn(edge.get(i))) {
                edge.addAll(calls.get(edge.get(i)));
            }
        }
        return reached;
    }

    /** The longest row of methods of the program, each called by the one ahead, none twice. */
    List<String> deepest(String from) {
        return deepest(from, new ArrayList<>());
    }

    private List<String> deepest(String from, List<String> open) {
        open.add(from);
        List<String> longest = new ArrayList<>(open);
        for (String next : calls.get(from)) {
            if (isOwn(next) && !open.contains(next)) {
                List<String> row = deepest(next, open);
                longest = row.size() > longest.size() ? row : longest;
            }
        }
        open.remove(open.size() - 1);
        return longest;
    }

    /** The constants of a class file: texts, and for the others the numbers of one or two that they name. */
    private static final class Pool {
        private final String[] texts;
        private final int[] first;
        private final int[] second;

        Pool(DataInputStream in) throws IOException {
            int many = in.readUnsignedShort();
            texts = new String[many];
            first = new int[many];
            second = new int[many];
            for (int i = 1; i < many; i++) {
                int kind = in.readUnsignedByte();
                switch (kind) {
                    case 1 -> texts[i] = in.readUTF();
                    case 3, 4 -> in.skipNBytes(4);
                    case 5, 6 -> {
                        in.skipNBytes(8);
                        // a long takes the room of two
                        i++;
                    }
                    case 7, 8, 16, 19, 20 -> first[i] = in.readUnsignedShort();
                    case 15 -> in.skipNBytes(3);
                    default -> {
                        first[i] = in.readUnsignedShort();
                        second[i] = in.readUnsignedShort();
                    }
                }
            }
        }

        String text(int i) {
            return texts[i];
        }

        String named(int i) {
            return texts[first[i]];
        }

        String called(int i) {
            int nameAndType = second[i];
            return named(first[i]) + "." + texts[first[nameAndType]] + ":" + texts[second[nameAndType]];
        }
    }
}
