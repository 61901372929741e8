import java.util.Random;

/** Long random runs of calls, each answer beside that of the slow and literal model. */
public final class ModelTests {
    private static final Bench B = new Bench();

    private final Random random;
    private final PutOffWicks x = new PutOffWicks();
    private final Model m = new Model();

    private ModelTests(long seed) {
        random = new Random(seed);
    }

    public static void main(String[] args) {
        int runs = args.length > 0 ? Integer.parseInt(args[0]) : 400;
        int from = args.length > 1 ? Integer.parseInt(args[1]) : 0;
        for (int run = from; run < from + runs; run++) {
            new ModelTests(run).run(run);
        }
        B.end();
    }

    private int below(int bound) {
        return random.nextInt(bound);
    }

    private void run(int run) {
        for (int call = 0; call < 500; call++) {
            String name = "run " + run + " call " + call + ": ";
            int kind = below(40);
            if (kind < 6) {
                lay(name, parishText(), 'p');
            } else if (kind < 13) {
                lay(name, lawText(), 'l');
            } else if (kind < 17) {
                lay(name, twistText(), 't');
            } else if (kind < 24) {
                feedBytes();
                bytesCall(name);
            } else {
                plainCall(name);
            }
            if (below(20) == 0) {
                state(name);
            }
        }
        state("run " + run + ": ");
    }

    private void state(String name) {
        for (int what = -1; what <= 9; what++) {
            B.due(name + "count(" + what + ")", x.count(what), m.count(what));
        }
        for (int k = 0; k < m.now.things.size(); k++) {
            for (int what = 0; what < 6; what++) {
                B.due(name + "thingIs(" + k + ", " + what + ")", x.thingIs(k, what), m.thingIs(k, what));
            }
        }
    }

    // ---- texts

    private String pick(String... of) {
        return of[below(of.length)];
    }

    private String parishText() {
        StringBuilder text = new StringBuilder();
        int lines = 1 + below(below(4) == 0 ? 26 : 10);
        for (int k = 0; k < lines; k++) {
            text.append(k == 0 ? "" : ";").append((char) ('a' + below(below(2) == 0 ? 3 : 16)));
            text.append(below(below(3) == 0 ? 1000 : 20)).append(pick("", "*"));
            if (k > 0 && below(3) == 0) {
                text.append('<').append(below(k));
            }
        }
        return spoilt(text);
    }

    private String lawText() {
        StringBuilder text = new StringBuilder();
        int rules = 1 + below(below(5) == 0 ? 18 : 6);
        for (int r = 0; r < rules; r++) {
            text.append(r == 0 ? "" : ";");
            String letter = pick("d", "b", "x");
            text.append(letter);
            if (!letter.equals("x")) {
                text.append(value(2));
            }
            text.append('(').append(condition(2)).append(')');
        }
        return spoilt(text);
    }

    private String condition(int depth) {
        StringBuilder text = new StringBuilder(test(depth));
        for (int i = below(3); i > 0; i--) {
            text.append(pick("&", "|")).append(test(depth));
        }
        return text.toString();
    }

    private String test(int depth) {
        if (depth > 0 && below(5) == 0) {
            return "!" + test(depth - 1);
        }
        if (depth > 0 && below(5) == 0) {
            return "(" + condition(depth - 1) + ")";
        }
        return value(depth) + pick("<", ">", "=") + value(depth);
    }

    private String value(int depth) {
        StringBuilder text = new StringBuilder(factor(depth));
        for (int i = below(3); i > 0 && depth > 0; i--) {
            text.append(pick("+", "-", "*", "/", "%")).append(factor(depth - 1));
        }
        return text.toString();
    }

    private String factor(int depth) {
        if (depth > 0 && below(6) == 0) {
            return "[" + value(depth - 1) + "]";
        }
        if (below(3) == 0) {
            return "" + below(below(4) == 0 ? 100000 : 12);
        }
        return pick("k", "p", "n", "l", "i", "m", "o", "t", "w");
    }

    private String twistText() {
        StringBuilder text = new StringBuilder(turns(2));
        return spoilt(text);
    }

    private String turns(int depth) {
        StringBuilder text = new StringBuilder();
        for (int i = 1 + below(5); i > 0; i--) {
            text.append(below(3) == 0 ? "" + (2 + below(8)) : "");
            if (depth > 0 && below(4) == 0) {
                text.append('(').append(turns(depth - 1)).append(')');
            } else {
                text.append((char) (pick("a", "A").charAt(0) + below(below(3) == 0 ? 7 : 2)));
            }
        }
        return text.toString();
    }

    /** Half of the texts get a sign or two that may not stand there, or lose their end. */
    private String spoilt(StringBuilder text) {
        String signs = "abdxkpnlimotwqzAG0123456789;*<>=()[]!&|+-/%, ~";
        if (below(2) == 0) {
            for (int i = 1 + below(2); i > 0; i--) {
                int at = below(text.length());
                char sign = signs.charAt(below(signs.length()));
                int how = below(4);
                if (how == 0) {
                    text.setCharAt(at, sign);
                } else if (how == 1) {
                    text.insert(at, sign);
                } else if (how == 2 && text.length() > 1) {
                    text.deleteCharAt(at);
                } else {
                    text.setLength(at + 1);
                }
            }
        }
        return text.length() > 260 ? text.substring(0, 260) : text.toString();
    }

    private void empty() {
        x.check(0);
        m.check(0);
    }

    private void feedOnce(int a, int b, int c, int d, int e) {
        B.due("feed", x.feed(a, b, c, d, e), m.feed(a, b, c, d, e));
    }

    private void lay(String name, String text, char kind) {
        empty();
        StringBuilder padded = new StringBuilder(text);
        while (padded.length() % 20 != 0) {
            padded.append('a');
        }
        for (int i = 0; i < padded.length(); i += 20) {
            int[] f = new int[5];
            for (int j = 0; j < 20; j++) {
                f[j / 4] = f[j / 4] << 8 | padded.charAt(i + j);
            }
            feedOnce(f[0], f[1], f[2], f[3], f[4]);
        }
        int n = text.length();
        if (kind == 'p') {
            B.due(name + "parish " + text, x.parish(n), m.parish(n));
        } else if (kind == 'l') {
            B.due(name + "law " + text, x.law(n), m.law(n));
        } else {
            int strands = below(3) == 0 ? 2 + below(7) : 8;
            int what = below(2) == 0 ? 100 + below(4) : below(strands + 1);
            String call = name + "twist(" + strands + ", " + n + ", " + what + ") " + text;
            B.due(call, x.twist(strands, n, what), m.twist(strands, n, what));
        }
    }

    // ---- bytes

    private void feedBytes() {
        if (below(8) != 0) {
            empty();
        }
        int bound = new int[] {2, 4, 8, 16, 20, 256}[below(6)];
        for (int i = 1 + below(2); i > 0; i--) {
            int[] f = new int[5];
            for (int j = 0; j < 20; j++) {
                f[j / 4] = f[j / 4] << 8 | below(bound);
            }
            feedOnce(f[0], f[1], f[2], f[3], f[4]);
        }
    }

    private void bytesCall(String name) {
        int what = below(12) == 0 ? below(5) - 1 : below(2);
        int n = below(15) == 0 ? below(30) - 2 : 1 + below(16);
        int many = below(15) == 0 ? below(15) - 1 : 1 + below(5);
        String call = name + "n " + n + " what " + what + " many " + many;
        switch (below(9)) {
            case 0:
                if (below(4) == 0) {
                    B.due(call + " waiting", x.waiting(n, what), m.waiting(n, what));
                }
                break;
            case 1:
                int few = n > 6 && below(20) != 0 ? n % 7 : n;
                B.due(call + " spun", x.spun(few, what), m.spun(few, what));
                break;
            case 2:
                int hour = below(9) == 0 ? below(300) - 2 : 1 + below(20);
                sortTwos();
                B.due(call + " night to " + hour, x.night(n, hour), m.night(n, hour));
                break;
            case 3:
                int tenths = below(13) - (below(4) == 0 ? 1 : 0);
                boolean knows = below(2) == 0;
                B.due(call + " putsOff", x.putsOff(n, tenths, knows, what), m.putsOff(n, tenths, knows, what));
                break;
            case 4:
                B.due(call + " cord", x.cord(n, many), m.cord(n, many));
                break;
            case 5:
                B.due(call + " seen", x.seen(n, many, what), m.seen(n, many, what));
                break;
            case 6:
                int lights = n > 7 && below(10) != 0 ? n % 8 : n;
                B.due(call + " brightest", x.brightest(lights, many, what), m.brightest(lights, many, what));
                break;
            case 7:
                B.due(call + " halves", x.halves(n, what), m.halves(n, what));
                break;
            default:
                B.due(call + " forgiven", x.forgiven(n), m.forgiven(n));
                break;
        }
    }

    /** Nights of wholly random bytes are nearly all wrong ones, so most are put right. */
    private void sortTwos() {
        if (below(5) == 0) {
            return;
        }
        empty();
        for (int i = 0; i < 2; i++) {
            int[] f = new int[5];
            for (int j = 0; j < 10; j++) {
                int from = below(14);
                f[j / 2] = f[j / 2] << 16 | from << 8 | from + 1 + below(6);
            }
            feedOnce(f[0], f[1], f[2], f[3], f[4]);
        }
    }

    // ---- the others

    private void plainCall(String name) {
        int k = below(10) == 0 ? below(30) - 3 : below(Math.max(1, m.now.things.size()));
        int n = below(15) == 0 ? below(110) - 3 : 1 + below(8);
        int what = below(3) - (below(8) == 0 ? 1 : 0);
        boolean is = below(2) == 0;
        switch (below(20)) {
            case 0:
            case 1:
            case 2:
                B.due(name + "days(" + n + ")", x.days(n), m.days(n));
                break;
            case 3:
            case 4:
            case 5:
                int which = below(2) == 0 ? below(5) : below(70) - 2;
                B.due(name + "tried(" + n + ", " + which + ")", x.tried(n, which), m.tried(n, which));
                break;
            case 6:
                B.due(name + "byWhen(" + k + ", " + n + ")", x.byWhen(k, n), m.byWhen(k, n));
                break;
            case 7:
                B.due(name + "dark(" + n + ")", x.dark(n), m.dark(n));
                break;
            case 8:
                B.due(name + "pride(" + what + ")", x.pride(what), m.pride(what));
                break;
            case 9:
                B.due(name + "oldest()", x.oldest(), m.oldest());
                break;
            case 10:
                B.due(name + "chain(" + k + ")", x.chain(k), m.chain(k));
                break;
            case 11:
                B.due(name + "orders()", x.orders(), m.orders());
                break;
            case 12:
                int p = below(19) - 1;
                B.due(name + "light(" + p + ")", x.light(p), m.light(p));
                break;
            case 13:
                B.due(name + "worstNews(" + what + ")", x.worstNews(what), m.worstNews(what));
                break;
            case 14:
                B.due(name + "median()", x.median(), m.median());
                break;
            case 15:
                B.due(name + "lit(" + k + ", " + is + ")", x.lit(k, is), m.lit(k, is));
                break;
            case 16:
                int seed = below(66000) - 200;
                B.due(name + "seed(" + seed + ")", x.seed(seed), m.seed(seed));
                break;
            case 17:
                B.due(name + "keep()", x.keep(), m.keep());
                break;
            case 18:
                B.due(name + "undo()", x.undo(), m.undo());
                break;
            default:
                checkLengths(name);
                break;
        }
    }

    private void checkLengths(String name) {
        empty();
        int[] f = new int[5];
        int spoil = below(40);
        for (int j = 0; j < 20; j++) {
            int due = j < m.now.things.size() ? m.now.things.get(j).length % 256 : 0;
            f[j / 4] = f[j / 4] << 8 | (j == spoil ? due ^ 1 : due);
        }
        feedOnce(f[0], f[1], f[2], f[3], f[4]);
        int n = below(27) - 1;
        B.due(name + "check(" + n + ")", x.check(n), m.check(n));
    }
}
