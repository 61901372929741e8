/** What the tests share: answers that are due, and texts and bytes brought to the tape. */
final class Bench {
    private int asked = 0;
    private int wrong = 0;

    void due(String call, long got, long want) {
        asked++;
        if (got != want) {
            wrong++;
            if (wrong <= 40) {
                System.out.println(call + " answered " + got + ", due is " + want);
            }
        }
    }

    void due(String call, boolean got, boolean want) {
        due(call, got ? 1 : 0, want ? 1 : 0);
    }

    /** Prints how it went and ends with exit code 1 if an answer was wrong. */
    void end() {
        System.out.println(asked + " answers asked, " + wrong + " not as due");
        if (wrong != 0 || asked == 0) {
            System.exit(1);
        }
    }

    /** Brings bytes to an empty tape, with junk behind them to the next twenty: how many they are. */
    static int feed(PutOffWicks wicks, int... bytes) {
        int many = Math.max(20, (bytes.length + 19) / 20 * 20);
        int[] all = new int[many];
        java.util.Arrays.fill(all, 0x61);
        System.arraycopy(bytes, 0, all, 0, bytes.length);
        for (int i = 0; i < many; i += 20) {
            wicks.feed(four(all, i), four(all, i + 4), four(all, i + 8), four(all, i + 12), four(all, i + 16));
        }
        return bytes.length;
    }

    static int feed(PutOffWicks wicks, String text) {
        int[] bytes = new int[text.length()];
        for (int i = 0; i < bytes.length; i++) {
            bytes[i] = text.charAt(i);
        }
        return feed(wicks, bytes);
    }

    private static int four(int[] b, int i) {
        return b[i] << 24 | b[i + 1] << 16 | b[i + 2] << 8 | b[i + 3];
    }

    static int parish(PutOffWicks wicks, String text) {
        return wicks.parish(feed(wicks, text));
    }

    static int law(PutOffWicks wicks, String text) {
        return wicks.law(feed(wicks, text));
    }

    static int twist(PutOffWicks wicks, int strands, String text, int what) {
        return wicks.twist(strands, feed(wicks, text), what);
    }

    static PutOffWicks with(String parish) {
        PutOffWicks wicks = new PutOffWicks();
        parish(wicks, parish);
        return wicks;
    }

    static PutOffWicks with(String parish, String law) {
        PutOffWicks wicks = with(parish);
        law(wicks, law);
        return wicks;
    }
}
