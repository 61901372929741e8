/**
 * The tape and the calls that are refused: each sentence on them that names a boundary has a test of its own
 * (promise 3, the bounds told in promises 19 to 27, and the sentence on calls that are refused).
 */
public final class TapeBoundaryTests {
    private static final Bench B = new Bench();

    private interface Asking {
        int of(PutOffWicks wicks);
    }

    private interface AskingOfN {
        int of(PutOffWicks wicks, int n);
    }

    public static void main(String[] args) {
        feeding();
        waiting();
        spun();
        night();
        putsOff();
        cord();
        seen();
        brightest();
        halves();
        forgiven();
        othersRefused();
        memoryIsItsOwn();
        calls512();
        B.end();
    }

    // ---- 3

    private static void feeding() {
        twentyBytesBehindTheTape();
        theHighestFirst();
        moreThan260();
        emptyOnlyWhenTaken();
    }

    private static void twentyBytesBehindTheTape() {
        B.of("3: Twenty bytes come behind the tape: how many it has");
        PutOffWicks x = new PutOffWicks();
        for (int i = 1; i <= 13; i++) {
            B.due("feed " + i, x.feed(i, i, i, i, i), 20 * i);
            B.due("count(6)", x.count(6), 20 * i);
        }
        PutOffWicks y = new PutOffWicks();
        Bench.parish(y, Bench.times("a5", 24, ";"));
        Bench.fill(y, 1, 5);
        y.feed(0x05050505, 0, 0, 0, 0);
        B.due("the second twenty are behind the first", y.check(24), -1);
    }

    private static void theHighestFirst() {
        B.of("3: the highest of each int first");
        StringBuilder text = new StringBuilder("a255;a1;a2;a3;a128;a4;a5;a6;a7;a8;a9;a10");
        text.append(";a11;a12;a13;a14;a127;a255;a254;a253");
        PutOffWicks x = Bench.with(text.toString());
        B.due("20 things", x.count(1), 20);
        x.feed(0xff010203, 0x80040506, 0x0708090a, 0x0b0c0d0e, 0x7ffffefd);
        B.due("all bytes in their order", x.check(20), -1);
        PutOffWicks wild = Bench.with("a127;a255;a255;a255;a128;a0;a0;a0;a255;a255;a255;a255");
        wild.feed(Integer.MAX_VALUE, Integer.MIN_VALUE, -1, 0, 0);
        B.due("the greatest, the least and -1", wild.check(12), -1);
    }

    private static void moreThan260() {
        B.of("3: NONE if that would be more than 260");
        PutOffWicks x = Bench.with(Bench.times("a7", 24, ";"));
        Bench.fill(x, 12, 7);
        B.due("240", x.count(6), 240);
        B.due("the thirteenth", x.feed(9, 9, 9, 9, 9), 260);
        B.due("a fourteenth", x.feed(0, 0, 0, 0, 0), -1);
        B.due("a fifteenth", x.feed(0, 0, 0, 0, 0), -1);
        B.due("the tape stays", x.count(6), 260);
        B.due("its bytes, too", x.check(24), -1);
        B.due("room again", x.feed(0, 0, 0, 0, 0), 20);
    }

    private static void emptyOnlyWhenTaken() {
        B.of("(the tape stays; empty then)");
        PutOffWicks x = Bench.with("a5*;b6", "d10(k=1)");
        Bench.fill(x, 3, 9);
        x.lit(1, true);
        x.days(1);
        x.tried(5, 0);
        x.thingIs(0, 0);
        x.byWhen(0, 9);
        x.dark(9);
        x.pride(0);
        x.oldest();
        x.chain(0);
        x.orders();
        x.light(16);
        x.worstNews(0);
        x.median();
        x.seed(9);
        x.keep();
        x.undo();
        B.due("calls that do not read it", x.count(6), 60);
        B.due("the first two", x.halves(2, 1), 0);
        B.due("empty then", x.count(6), 0);
        x.feed(0x01090000, 0, 0, 0, 0);
        B.due("the next ones come first", x.halves(2, 1), 8);
    }

    // ---- what the calls that read the tape have in common

    /** A state in which nothing is as it was at first, and a tape whose first bytes are 1, 2, 3 and so on. */
    private static PutOffWicks full() {
        PutOffWicks x = Bench.with("a1;b2*;c3*;a4<1;p5*", "d10(k=2&t=1);b0(1=1);x(k=4)");
        x.days(2);
        x.keep();
        x.days(1);
        for (int i = 0; i < 13; i++) {
            int four = 4 * (5 * i + 1);
            x.feed(ints(four - 3), ints(four + 1), ints(four + 5), ints(four + 9), ints(four + 13));
        }
        return x;
    }

    private static int ints(int from) {
        return (from & 255) << 24 | (from + 1 & 255) << 16 | (from + 2 & 255) << 8 | from + 3 & 255;
    }

    /** The call is refused: it answers so, and neither the object nor the tape is another one then. */
    private static void refused(String call, int answer, Asking asking) {
        PutOffWicks x = full();
        String before = Bench.look(x);
        B.due(call, asking.of(x), answer);
        B.due("behind " + call, Bench.look(x), before);
        B.due("the tape behind " + call, x.count(6), 260);
        B.due("its bytes behind " + call, x.cord(12, 1), 78);
        x.undo();
        B.due("what is kept behind " + call, x.count(0), 2);
    }

    private static void refused(String call, Asking asking) {
        refused(call, -1, asking);
    }

    private static void taken(String call, PutOffWicks x, Asking asking) {
        String before = Bench.look(x).replaceFirst(" " + x.count(6) + " ", " 0 ");
        B.due(call + " is not refused", asking.of(x) != -1, true);
        B.due("behind " + call + " all but the tape is as it was", Bench.look(x), before);
    }

    private static void bounds(String name, int least, int most, AskingOfN asking) {
        int[] wrong = {least - 1, most + 1, 0, -1, 255, 1 << 30, (1 << 30) + 1, (1 << 31) + 1, 1 << 31, (1 << 31) - 1};
        for (int n : wrong) {
            refused(name + "(" + n + ")", x -> asking.of(x, n));
        }
        taken(name + "(" + least + ")", full(), x -> asking.of(x, least));
        taken(name + "(" + most + ")", full(), x -> asking.of(x, most));
    }

    private static void notSoMany(String name, int least, int most, int each, AskingOfN asking) {
        PutOffWicks none = new PutOffWicks();
        B.due(name + " of an empty tape", asking.of(none, least), -1);
        int fits = 20 / each;
        if (most > fits) {
            PutOffWicks x = new PutOffWicks();
            Bench.feed(x, 1, 2, 3, 4, 5, 6, 7, 8, 9, 10, 11, 12, 13, 14, 15, 1, 2, 3, 4, 5);
            B.due(name + " of one more than there are", asking.of(x, fits + 1), -1);
            B.due("the tape stays", x.count(6), 20);
            B.due("its bytes, too", x.cord(12, 1), 78);
            Bench.feed(x, 1, 2, 3, 4, 5, 6, 7, 8, 9, 10, 11, 12, 13, 14, 15, 1, 2, 3, 4, 5);
            B.due(name + " of as many as there are", asking.of(x, fits) != -1, true);
            B.due("empty then", x.count(6), 0);
        }
        PutOffWicks once = full();
        asking.of(once, least);
        B.due("empty behind the least of them", once.count(6), 0);
        B.due("not so many for a second call", asking.of(once, least), -1);
    }

    private static void noSuchWhat(String name, AskingOfN ofWhat) {
        for (int what : new int[] {-1, 2, 3, 100, Integer.MIN_VALUE, Integer.MAX_VALUE}) {
            refused(name + " what " + what, x -> ofWhat.of(x, what));
        }
        taken(name + " what 0", full(), x -> ofWhat.of(x, 0));
        taken(name + " what 1", full(), x -> ofWhat.of(x, 1));
    }

    // ---- 19 to 27

    private static void waiting() {
        B.of("19: by the first 2 n bytes of the tape (n 1 to 20; empty then); NONE: no such ones");
        bounds("waiting", 1, 20, (x, n) -> x.waiting(n, 0));
        bounds("waiting how few", 1, 20, (x, n) -> x.waiting(n, 1));
        B.of("19: what 0, 1; NONE: no such ones");
        noSuchWhat("waiting", (x, what) -> x.waiting(2, what));
        B.of("19: NONE: it has not so many (the tape stays)");
        notSoMany("waiting", 1, 20, 2, (x, n) -> x.waiting(n, 0));
    }

    private static void spun() {
        B.of("20: by the first 2 n bytes of the tape (n 1 to 8; empty then); NONE: no such ones");
        bounds("spun", 1, 8, (x, n) -> x.spun(n, 0));
        bounds("spun first", 1, 8, (x, n) -> x.spun(n, 1));
        B.of("20: what 0 hours, 1 which first; NONE: no such ones");
        noSuchWhat("spun", (x, what) -> x.spun(2, what));
        B.of("20: NONE: it has not so many (the tape stays)");
        notSoMany("spun", 1, 8, 2, (x, n) -> x.spun(n, 0));
    }

    private static void night() {
        B.of("21: by the first 2 n bytes of the tape (n 1 to 16; empty then); NONE: no such ones");
        bounds("night", 1, 16, (x, n) -> x.night(n, 9));
        B.of("21: A NIGHT to an hour (1 to 255); NONE: no such ones");
        for (int hour : new int[] {0, -1, 256, 257, Integer.MIN_VALUE, Integer.MAX_VALUE}) {
            refused("night to " + hour, x -> x.night(2, hour));
        }
        taken("night to 1", full(), x -> x.night(2, 1));
        taken("night to 255", full(), x -> x.night(2, 255));
        B.of("21: NONE: it has not so many (the tape stays)");
        notSoMany("night", 1, 16, 2, (x, n) -> x.night(n, 9));
    }

    private static void putsOff() {
        B.of("22: by the first n bytes of the tape (n 1 to 16; empty then); NONE: no such ones");
        bounds("putsOff", 1, 16, (x, n) -> x.putsOff(n, 5, false, 0));
        bounds("putsOff of one who knows", 1, 16, (x, n) -> x.putsOff(n, 5, true, 1));
        B.of("22: tenths (1 to 10); NONE: no such ones");
        for (int tenths : new int[] {0, -1, 11, 100, Integer.MIN_VALUE, Integer.MAX_VALUE}) {
            refused("tenths " + tenths, x -> x.putsOff(3, tenths, true, 0));
            refused("tenths " + tenths + ", not knowing", x -> x.putsOff(3, tenths, false, 1));
        }
        taken("tenths 1", full(), x -> x.putsOff(3, 1, true, 0));
        taken("tenths 10", full(), x -> x.putsOff(3, 10, false, 0));
        B.of("22: what 0 the DAY, 1 the cost; NONE: no such ones");
        noSuchWhat("putsOff", (x, what) -> x.putsOff(3, 5, true, what));
        noSuchWhat("putsOff, not knowing", (x, what) -> x.putsOff(3, 5, false, what));
        B.of("22: NONE: it has not so many (the tape stays)");
        notSoMany("putsOff", 1, 16, 1, (x, n) -> x.putsOff(n, 5, true, 0));
    }

    private static void cord() {
        B.of("23: by the first n bytes of the tape (n 2 to 12; empty then); NONE: no such ones");
        bounds("cord", 2, 12, (x, n) -> x.cord(n, 2));
        B.of("23: of so many (1 to 8); NONE: no such ones");
        for (int many : new int[] {0, -1, 9, 12, Integer.MIN_VALUE, Integer.MAX_VALUE}) {
            refused("cord of " + many, x -> x.cord(12, many));
        }
        taken("cord of 1", full(), x -> x.cord(2, 1));
        taken("cord of 8", full(), x -> x.cord(2, 8));
        B.of("23: NONE: it has not so many (the tape stays)");
        notSoMany("cord", 2, 12, 1, (x, n) -> x.cord(n, 2));
    }

    private static void seen() {
        B.of("24: by the first 2 n bytes of the tape (n 1 to 12; empty then); NONE: no such ones");
        bounds("seen", 1, 12, (x, n) -> x.seen(n, 2, 0));
        bounds("seen, the longest row", 1, 12, (x, n) -> x.seen(n, 2, 1));
        B.of("24: so many (1 to 12); NONE: no such ones");
        for (int many : new int[] {0, -1, 13, Integer.MIN_VALUE, Integer.MAX_VALUE}) {
            refused("seen of " + many, x -> x.seen(12, many, 0));
        }
        taken("seen of 1", full(), x -> x.seen(2, 1, 0));
        taken("seen of 12, more than there are", full(), x -> x.seen(2, 12, 0));
        B.of("24: what 0 places, 1 the longest row; NONE: no such ones");
        noSuchWhat("seen", (x, what) -> x.seen(2, 1, what));
        B.of("24: NONE: it has not so many (the tape stays)");
        notSoMany("seen", 1, 12, 2, (x, n) -> x.seen(n, 1, 0));
    }

    private static void brightest() {
        B.of("25: by the first 2 n bytes of the tape (n 1 to 12; empty then); NONE: no such ones");
        bounds("brightest", 1, 12, (x, n) -> x.brightest(n, 1, 0));
        bounds("brightest, which", 1, 12, (x, n) -> x.brightest(n, 1, 1));
        B.of("25: so many (1 to n); NONE: no such ones");
        for (int n = 1; n <= 12; n++) {
            int lights = n;
            refused("brightest none of " + n, x -> x.brightest(lights, 0, 0));
            refused("brightest one more than " + n, x -> x.brightest(lights, lights + 1, 0));
            taken("brightest all of " + n, full(), x -> x.brightest(lights, lights, 0));
        }
        for (int many : new int[] {-1, 13, Integer.MIN_VALUE, Integer.MAX_VALUE}) {
            refused("brightest " + many, x -> x.brightest(12, many, 1));
        }
        B.of("25: what 0 places, 1 which; NONE: no such ones");
        noSuchWhat("brightest", (x, what) -> x.brightest(2, 1, what));
        B.of("25: NONE: it has not so many (the tape stays)");
        notSoMany("brightest", 1, 12, 2, (x, n) -> x.brightest(n, 1, 0));
    }

    private static void halves() {
        B.of("26: by the first n bytes of the tape (n 2 to 16; empty then); NONE: no such ones");
        bounds("halves", 2, 16, (x, n) -> x.halves(n, 0));
        bounds("halves, by how much", 2, 16, (x, n) -> x.halves(n, 1));
        B.of("26: what 0 how many on the first side, 1 by how much; NONE: no such ones");
        noSuchWhat("halves", (x, what) -> x.halves(2, what));
        B.of("26: NONE: it has not so many (the tape stays)");
        notSoMany("halves", 2, 16, 1, (x, n) -> x.halves(n, 0));
    }

    private static void forgiven() {
        B.of("27: by the first 2 n bytes of the tape (n 1 to 16; empty then); NONE: no such n");
        bounds("forgiven", 1, 16, (x, n) -> x.forgiven(n));
        B.of("27: NONE: it has not so many (the tape stays)");
        notSoMany("forgiven", 1, 16, 2, (x, n) -> x.forgiven(n));
    }

    // ---- what is refused else

    private static void othersRefused() {
        B.of("A call that is refused (NONE, false) changes nothing");
        refused("feed", x -> x.feed(9, 9, 9, 9, 9));
        refused("lit of none", 0, x -> x.lit(5, true) ? 1 : 0);
        refused("lit of one that is done", 0, x -> x.lit(2, true) ? 1 : 0);
        refused("seed", 0, x -> x.seed(65536) ? 1 : 0);
        for (int n : new int[] {0, -1, 241, 300}) {
            refused("law", x -> x.law(n));
            refused("parish", x -> x.parish(n));
            refused("days", x -> x.days(n));
            refused("tried", x -> x.tried(n, 0));
            refused("byWhen", x -> x.byWhen(0, n));
            refused("dark", x -> x.dark(n));
            refused("twist", x -> x.twist(2, n, 100));
        }
        refused("parish of 201", x -> x.parish(201));
        refused("twist of 81", x -> x.twist(2, 81, 100));
        refused("twist of 9", x -> x.twist(9, 1, 100));
        refused("twist to 3 of 3", x -> x.twist(3, 1, 3));
        refused("check", -2, x -> x.check(25));
        refused("check of less than none", -2, x -> x.check(-1));
        for (int what : new int[] {-1, 9, 17, 99}) {
            refused("count", x -> x.count(what));
            refused("thingIs", x -> x.thingIs(0, what));
            refused("thingIs of another", x -> x.thingIs(what, 0));
            refused("pride", x -> x.pride(what));
            refused("worstNews", x -> x.worstNews(what));
            refused("chain", x -> x.chain(what));
            refused("byWhen of another", x -> x.byWhen(what, 5));
            refused("tried of another", x -> x.tried(1, what));
        }
        refused("light of 17", x -> x.light(17));
        refused("light of -1", x -> x.light(-1));
    }

    // ---- the object

    private static void memoryIsItsOwn() {
        B.of("All memory is the parish's own");
        PutOffWicks x = full();
        PutOffWicks other = new PutOffWicks();
        String before = Bench.look(x);
        Bench.parish(other, Bench.times("p9*", 24, ";"));
        Bench.law(other, "d10(k>3);b7(1=1)");
        other.seed(4711);
        other.days(100);
        other.keep();
        Bench.twist(other, 8, "8(8a)", 100);
        Bench.fill(other, 13, 255);
        B.due("what the other one does", Bench.look(x), before);
        String ofOther = Bench.look(other);
        x.days(5);
        x.undo();
        B.due("its bytes", x.cord(12, 1), 78);
        B.due("what it keeps", x.count(0), 2);
        B.due("what this one does", Bench.look(other), ofOther);
        B.due("a new one", Bench.look(new PutOffWicks()), "0 0 0 0 0 0 0 1 0 | 0 0");
    }

    private static void calls512() {
        B.of("An object is used for at most 512 calls");
        PutOffWicks x = Bench.with("a5;b5*", "d0(1=1);x(k=0);b0(1=1)");
        // four calls went ahead, and five follow
        for (int i = 0; i < 503; i++) {
            x.days(1);
        }
        B.due("the day", x.count(0), 503);
        B.due("x", x.count(7), Bench.drawn(1, 4 * 503));
        B.due("put off", x.thingIs(1, 3), 503);
        B.due("keep", x.keep(), 503);
        B.due("the 512th", x.tried(100, 40), 603);
        PutOffWicks y = new PutOffWicks();
        for (int i = 0; i < 170; i++) {
            y.feed(0x00010100, 0, 0, 0, 0);
            B.due("waiting", y.waiting(2, 1), 1);
            B.due("the tape", y.count(6), 0);
        }
    }
}
