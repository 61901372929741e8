/** What the tests share: answers that are due, and texts and bytes brought to the tape. */
final class Bench {
    private int asked = 0;
    private int wrong = 0;
    private int sentences = 0;
    private int askedOfSentence = 1;
    private String sentence = "";

    /** What follows, till the next one, tests this sentence of the document. */
    void of(String words) {
        endSentence();
        sentences++;
        askedOfSentence = 0;
        sentence = "[" + words + "] ";
    }

    private void endSentence() {
        if (askedOfSentence == 0) {
            wrong++;
            System.out.println(sentence + "is not tested");
        }
    }

    void due(String call, long got, long want) {
        asked++;
        askedOfSentence++;
        if (got != want) {
            wrong++;
            if (wrong <= 40) {
                System.out.println(sentence + call + " answered " + got + ", due is " + want);
            }
        }
    }

    void due(String call, String got, String want) {
        due(call + ": " + got + " and " + want, got.equals(want), true);
    }

    void due(String call, boolean got, boolean want) {
        due(call, got ? 1 : 0, want ? 1 : 0);
    }

    /** Prints how it went and ends with exit code 1 if an answer was wrong. */
    void end() {
        endSentence();
        String of = sentences == 0 ? "" : " of " + sentences + " sentences";
        System.out.println(asked + " answers asked" + of + ", " + wrong + " not as due");
        if (wrong != 0 || asked == 0) {
            System.exit(1);
        }
    }

    /** Brings bytes to an empty tape, with junk behind them to the next twenty: how many they are. */
    static int feed(PutOffWicks wicks, int... bytes) {
        int many = Math.max(20, (bytes.length + 19) / 20 * 20);
        int[] all = new int[many];
        java.util.Arrays.fill(all, 0x61);
        System.arraycopy(bytes, 0, all, 0, bytes.length);
        for (int i = 0; i < many; i += 20) {
            wicks.feed(four(all, i), four(all, i + 4), four(all, i + 8), four(all, i + 12), four(all, i + 16));
        }
        return bytes.length;
    }

    static int feed(PutOffWicks wicks, String text) {
        int[] bytes = new int[text.length()];
        for (int i = 0; i < bytes.length; i++) {
            bytes[i] = text.charAt(i);
        }
        return feed(wicks, bytes);
    }

    /** Twenty bytes of one kind, so many times. */
    static void fill(PutOffWicks wicks, int times, int sign) {
        int four = sign * 0x01010101;
        for (int i = 0; i < times; i++) {
            wicks.feed(four, four, four, four, four);
        }
    }

    static String times(String text, int many, String between) {
        StringBuilder all = new StringBuilder();
        for (int i = 0; i < many; i++) {
            all.append(i == 0 ? "" : between).append(text);
        }
        return all.toString();
    }

    /** X behind so many draws. */
    static int drawn(int x, int many) {
        long at = x;
        for (int i = 0; i < many; i++) {
            at = (25173L * at + 13849L) % 65536L;
        }
        return (int) at;
    }

    /** All that can be seen of an object without changing it. */
    static String look(PutOffWicks wicks) {
        StringBuilder all = new StringBuilder();
        for (int what = 0; what <= 8; what++) {
            all.append(wicks.count(what)).append(' ');
        }
        for (int k = 0; k < wicks.count(1); k++) {
            for (int what = 0; what < 6; what++) {
                all.append(what == 0 ? "| " : "").append(wicks.thingIs(k, what)).append(' ');
            }
        }
        // what the law makes of it
        all.append("| ").append(wicks.tried(1, 2)).append(' ').append(wicks.tried(7, 3));
        return all.toString();
    }

    private static int four(int[] b, int i) {
        return b[i] << 24 | b[i + 1] << 16 | b[i + 2] << 8 | b[i + 3];
    }

    static int parish(PutOffWicks wicks, String text) {
        return wicks.parish(feed(wicks, text));
    }

    static int law(PutOffWicks wicks, String text) {
        return wicks.law(feed(wicks, text));
    }

    static int twist(PutOffWicks wicks, int strands, String text, int what) {
        return wicks.twist(strands, feed(wicks, text), what);
    }

    static PutOffWicks with(String parish) {
        PutOffWicks wicks = new PutOffWicks();
        parish(wicks, parish);
        return wicks;
    }

    static PutOffWicks with(String parish, String law) {
        PutOffWicks wicks = with(parish);
        law(wicks, law);
        return wicks;
    }
}
