import java.util.Random;

/** Random rings of people who wait, sparse, dense and twisted, beside the model, which tries all orders. */
public final class WaitingTests {
    public static void main(String[] args) {
        int graphs = args.length > 0 ? Integer.parseInt(args[0]) : 1500;
        Bench bench = new Bench();
        Random random = new Random(11);
        PutOffWicks wicks = new PutOffWicks();
        Model model = new Model();
        for (int graph = 0; graph < graphs; graph++) {
            int people = 2 + random.nextInt(15);
            int n = random.nextInt(3) == 0 ? 1 + random.nextInt(20) : 20;
            int kind = random.nextInt(4);
            int[] twos = new int[40];
            for (int i = 0; i < n; i++) {
                int who = random.nextInt(people);
                twos[2 * i] = who;
                twos[2 * i + 1] = (who + step(random, people, kind)) % people;
            }
            for (int what = 0; what < 2; what++) {
                feed(wicks, model, twos);
                bench.due("graph " + graph + " what " + what, wicks.waiting(n, what), model.waiting(n, what));
            }
        }
        bench.end();
    }

    /** How far round the one waited for sits: anywhere, near, next to him, or ahead with rare ones behind. */
    private static int step(Random random, int people, int kind) {
        int far = people - 1;
        switch (kind) {
            case 0: return 1 + random.nextInt(far);
            case 1: return 1 + random.nextInt(Math.min(3, far));
            case 2: return random.nextBoolean() ? 1 : far;
            default: return random.nextInt(4) == 0 ? far : 1 + random.nextInt(Math.min(2, far));
        }
    }

    private static void feed(PutOffWicks wicks, Model model, int[] twos) {
        for (int i = 0; i < 40; i += 20) {
            int[] f = new int[5];
            for (int j = 0; j < 20; j++) {
                f[j / 4] = f[j / 4] << 8 | twos[i + j];
            }
            wicks.feed(f[0], f[1], f[2], f[3], f[4]);
            model.feed(f);
        }
    }
}
