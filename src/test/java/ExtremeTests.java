import java.lang.reflect.Method;
import java.util.ArrayList;
import java.util.List;
import java.util.Random;

/** Every method with the wildest arguments in every state: none throws, and all answer as the model does. */
public final class ExtremeTests {
    private static final int[] WILD = {
        Integer.MIN_VALUE, Integer.MIN_VALUE + 1, -65536, -1000, -256, -128, -3, -2, -1, 0, 1, 2, 3, 5, 8, 10,
        12, 16, 20, 24, 33, 40, 63, 80, 100, 103, 200, 240, 255, 256, 260, 999, 9999, 65535, 65536,
        0x61616161, 0x28282828, 0x64313028, 0x313d3129, 0x3b3b3b3b, 1 << 30, Integer.MAX_VALUE - 1, Integer.MAX_VALUE
    };

    public static void main(String[] args) throws Exception {
        Bench bench = new Bench();
        List<Method> methods = new ArrayList<>();
        for (Method method : PutOffWicks.class.getDeclaredMethods()) {
            if ((method.getModifiers() & 1) != 0 && !method.getName().equals("feed")) {
                methods.add(method);
            }
        }
        methods.sort((a, b) -> a.getName().compareTo(b.getName()));
        Random random = new Random(7);
        for (int run = 0; run < 300; run++) {
            PutOffWicks wicks = new PutOffWicks();
            Model model = new Model();
            for (int call = 0; call < 512; call++) {
                if (random.nextInt(3) == 0) {
                    int[] f = random.ints(5).toArray();
                    for (int i = 0; i < 5; i++) {
                        f[i] = random.nextBoolean() ? WILD[random.nextInt(WILD.length)] : f[i] & 0x0f0f0f0f;
                    }
                    bench.due("feed", wicks.feed(f[0], f[1], f[2], f[3], f[4]), model.feed(f));
                } else {
                    ask(bench, methods.get(random.nextInt(methods.size())), wicks, model, random);
                }
            }
        }
        bench.end();
    }

    private static void ask(Bench bench, Method method, PutOffWicks wicks, Model model, Random random) throws Exception {
        Class<?>[] types = method.getParameterTypes();
        Object[] arguments = new Object[types.length];
        StringBuilder call = new StringBuilder(method.getName());
        for (int i = 0; i < types.length; i++) {
            if (types[i] == boolean.class) {
                arguments[i] = random.nextBoolean();
            } else {
                arguments[i] = random.nextBoolean() ? WILD[random.nextInt(WILD.length)] : random.nextInt(26);
            }
            call.append(' ').append(arguments[i]);
        }
        Object got = method.invoke(wicks, arguments);
        Object want = Model.class.getDeclaredMethod(method.getName(), types).invoke(model, arguments);
        bench.due(call + ": " + got + " and " + want, got.equals(want), true);
    }
}
