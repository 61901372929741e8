/**
 * Each sentence on THINGS, A DAY and its DRAWS that names a boundary has a test of its own (Terms, promises 1, 2,
 * 6, 28 to 30).
 */
public final class DayBoundaryTests {
    private static final Bench B = new Bench();

    public static void main(String[] args) {
        terms();
        aDay();
        draws();
        lighting();
        passing();
        keeping();
        B.end();
    }

    private static void terms() {
        things0To23();
        lengthAtMost999();
        lengthAtLeast0();
        daysAtFirst();
        daysAtMost9999();
        gutteredIsCounted();
        theDayAtFirst();
    }

    private static void aDay() {
        eachNotDone();
        asItIsThen();
        askedAheadOfAll();
        litIfItHasLength();
        litByXItBurns();
        atZeroLitNoMore();
        burntOutDoesNotGutter();
        waitsForOneNotDone();
        waitsForOneDoneTheSameDay();
        litNoMoreWhenDone();
        putOffGrows();
        notIfLitStill();
        theDayAtMost9999();
        asManyAsCan();
    }

    private static void draws() {
        aDrawMadeAlways();
        modulo65536();
        modulo10();
        theSeedIsOneAtFirst();
    }

    private static int thing(String parish, String law, int days, int what) {
        PutOffWicks x = Bench.with(parish, law);
        x.days(days);
        return x.thingIs(0, what);
    }

    /** The last day of all, which is far away: a hundred calls. */
    private static void toDay(PutOffWicks x, int day) {
        while (x.count(0) < day) {
            x.days(Math.min(100, day - x.count(0)));
        }
    }

    // ---- terms

    private static void things0To23() {
        B.of("THINGS 0 to 23 (as many as THE PARISH has)");
        for (int many : new int[] {1, 2, 23, 24}) {
            PutOffWicks x = Bench.with(Bench.times("b7*", many, ";"));
            B.due("things", x.count(1), many);
            B.due("the last", x.thingIs(many - 1, 0), 1);
            B.due("one beyond", x.thingIs(many, 0), -1);
            B.due("lit(last)", x.lit(many - 1, true), true);
            B.due("lit(beyond)", x.lit(many, true), false);
            B.due("byWhen(last)", x.byWhen(many - 1, 1), -2);
            B.due("byWhen(beyond)", x.byWhen(many, 1), -1);
            B.due("chain(last)", x.chain(many - 1), 1);
            B.due("chain(beyond)", x.chain(many), -1);
            B.due("length of the last", x.tried(1, 10 + many - 1), 6);
            B.due("length beyond", x.tried(1, 10 + many), -1);
            B.due("days of the last", x.tried(1, 40 + many - 1), 1);
            B.due("days beyond", x.tried(1, 40 + many), -1);
            B.due("all are lit", x.count(2), (1 << many) - 1);
            Bench.law(x, "d10(1=1)");
            B.due("all are done", x.days(1), many);
            B.due("bits", x.count(3), (1 << many) - 1);
        }
    }

    private static void lengthAtMost999() {
        B.of("a LENGTH (0 to 999); LENGTH one more (999 at most)");
        B.due("998", thing("a997", "b1(1=1)", 1, 1), 998);
        B.due("999", thing("a998", "b1(1=1)", 1, 1), 999);
        B.due("no more", thing("a999", "b1(1=1)", 1, 1), 999);
        B.due("in a hundred days", thing("a950", "b1(1=1)", 100, 1), 999);
        B.due("put off all the same", thing("a999", "b1(1=1)", 100, 3), 100);
    }

    private static void lengthAtLeast0() {
        B.of("it burns: LENGTH b less (0 at least)");
        B.due("done with 1", thing("a100*", "b99(1=1);d10(1=1)", 1, 1), 1);
        B.due("done with 0", thing("a99*", "b99(1=1);d10(1=1)", 1, 1), 0);
        B.due("never below", thing("a98*", "b99(1=1);d10(1=1)", 1, 1), 0);
        B.due("of one", thing("a1*", "b99(1=1);d10(1=1)", 1, 1), 0);
    }

    private static void daysAtFirst() {
        B.of("DAYS it was put off (0 at first)");
        PutOffWicks x = Bench.with("a5");
        B.due("0", x.thingIs(0, 3), 0);
        x.days(1);
        B.due("1", x.thingIs(0, 3), 1);
    }

    /** Things that were not there when it was kept keep their days while the day goes back. */
    private static void daysAtMost9999() {
        B.of("DAYS it was put off (9999 at most)");
        PutOffWicks x = new PutOffWicks();
        x.keep();
        Bench.parish(x, "a5");
        toDay(x, 9998);
        B.due("9998", x.thingIs(0, 3), 9998);
        x.undo();
        B.due("the day is back", x.count(0), 0);
        B.due("days stay", x.thingIs(0, 3), 9998);
        x.days(1);
        B.due("9999", x.thingIs(0, 3), 9999);
        x.days(1);
        B.due("no more", x.thingIs(0, 3), 9999);
        x.days(100);
        B.due("nor in a hundred days", x.thingIs(0, 3), 9999);
        B.due("while the day goes on", x.count(0), 102);
        B.due("tried", x.tried(100, 40), 9999);
        Bench.law(x, "d10(n=9999)");
        B.due("n", x.tried(1, 0), 1);
        B.due("pride", x.pride(1), 9999);
        B.due("median", x.median(), 9999);
    }

    private static void gutteredIsCounted() {
        B.of("GUTTERED is what was LIT when it was DONE (counted)");
        PutOffWicks x = Bench.with("a5*;b5;c5*;d0*", "d10(t=0&k<2);d10(t=1)");
        B.due("0 at first", x.count(4), 0);
        x.days(1);
        B.due("one of two", x.count(4), 1);
        x.days(1);
        B.due("one more", x.count(4), 2);
        x.days(1);
        B.due("no more", x.count(4), 2);
        PutOffWicks all = Bench.with(Bench.times("a5*", 24, ";"), "d10(1=1)");
        all.days(1);
        B.due("24", all.count(4), 24);
    }

    private static void theDayAtFirst() {
        B.of("THE DAY (0 at first)");
        PutOffWicks x = new PutOffWicks();
        B.due("0", x.count(0), 0);
        x.days(1);
        B.due("1", x.count(0), 1);
    }

    // ---- a day

    private static void eachNotDone() {
        B.of("A DAY: each THING that is not DONE");
        PutOffWicks x = Bench.with("a5;a7*", "d10(k=0)");
        x.days(1);
        x.days(3);
        B.due("a done one is not put off", x.thingIs(0, 3), 0);
        B.due("nor does it grow", x.thingIs(0, 1), 5);
        B.due("nor is it drawn for", x.count(7), Bench.drawn(1, 4 + 6));
        Bench.law(x, "x(1=1)");
        B.due("nor is it lit", x.tried(1, 2), 2);
        B.due("nor done again", x.tried(1, 0), 0);
    }

    private static void asItIsThen() {
        B.of("A DAY: by numbers, as it is then");
        B.due("the lower one is done by then", Bench.with("a5;a5", "d10(k=0);d10(m=1)").tried(1, 3), 3);
        B.due("the higher one is not", Bench.with("a5;a5", "d10(k=1);d10(m=1)").tried(1, 3), 2);
    }

    private static void askedAheadOfAll() {
        B.of("A DAY: with a DRAW (x, b, d asked with it, ahead of all that follows)");
        // the draws are 2 and 7
        B.due("the same draw for all three", Bench.with("a50", "x(w=2);b9(w=2);d10(w=2)").tried(1, 10), 41);
        B.due("d of the first draw", Bench.with("a50", "d10(w=7)").tried(1, 3), 0);
        B.due("d of what it was", Bench.with("a50*", "b9(1=1);d10(l=50&i=1&n=0)").tried(1, 3), 1);
    }

    private static void litIfItHasLength() {
        B.of("A DAY: by x it is LIT (if it has LENGTH)");
        B.due("0: not lit", thing("a0", "x(1=1);b0(1=1)", 1, 2), 0);
        B.due("0: it grows", thing("a0", "x(1=1);b0(1=1)", 1, 1), 1);
        B.due("1: lit", thing("a1", "x(1=1);b0(1=1)", 1, 2), 1);
        B.due("0: lit on the second day", thing("a0", "x(1=1);b0(1=1)", 2, 2), 1);
        B.due("it grows no more", thing("a0", "x(1=1);b0(1=1)", 9, 1), 1);
        B.due("without length none gutters", Bench.with("a0", "x(1=1);b0(1=1);d10(1=1)").tried(1, 1), 0);
    }

    private static void litByXItBurns() {
        B.of("A DAY: Is it LIT (by x, too), it burns");
        B.due("by x", thing("a9", "x(1=1);b3(1=1)", 1, 1), 6);
        B.due("lit ahead", thing("a9*", "b3(1=1)", 1, 1), 6);
        B.due("not lit", thing("a9", "b3(1=1)", 1, 1), 10);
        B.due("x of one that is lit", thing("a9*", "x(1=1);b3(1=1)", 1, 1), 6);
    }

    private static void atZeroLitNoMore() {
        B.of("A DAY: at 0 it is LIT no more");
        B.due("2 is lit still", thing("a2*", "b1(1=1)", 1, 2), 1);
        B.due("with 1", thing("a2*", "b1(1=1)", 1, 1), 1);
        B.due("1 is lit no more", thing("a1*", "b1(1=1)", 1, 2), 0);
        B.due("and grows", thing("a1*", "b1(1=1)", 1, 1), 1);
        B.due("b beyond it", thing("a5*", "b9(1=1)", 1, 2), 0);
        B.due("b of 0", thing("a1*", "b0(1=1)", 100, 2), 1);
    }

    private static void burntOutDoesNotGutter() {
        B.of("A DAY: is it LIT (behind its burning), one more is GUTTERED");
        B.due("burnt out", Bench.with("a5*", "b5(1=1);d10(1=1)").tried(1, 1), 0);
        B.due("done all the same", Bench.with("a5*", "b5(1=1);d10(1=1)").tried(1, 3), 1);
        B.due("not burnt out", Bench.with("a6*", "b5(1=1);d10(1=1)").tried(1, 1), 1);
        B.due("lit by x that day", Bench.with("a6", "x(1=1);b5(1=1);d10(1=1)").tried(1, 1), 1);
        B.due("never lit", Bench.with("a6", "b5(1=1);d10(1=1)").tried(1, 1), 0);
    }

    private static void waitsForOneNotDone() {
        B.of("A DAY: if what it WAITS for (if it does) is DONE, it is DONE");
        PutOffWicks x = Bench.with("a5;a5<0;a5*<1", "d10(k>0)");
        B.due("none in a hundred days", x.tried(100, 0), 0);
        x.days(1);
        B.due("put off", x.thingIs(1, 3), 1);
        B.due("none guttered", x.count(4), 0);
        B.due("lit still", x.count(2), 4);
    }

    private static void waitsForOneDoneTheSameDay() {
        B.of("A DAY: by numbers (what it WAITS for is DONE the same DAY)");
        StringBuilder row = new StringBuilder("a5");
        for (int k = 1; k < 24; k++) {
            row.append(";a5<").append(k - 1);
        }
        B.due("all in a day", Bench.with(row.toString(), "d10(1=1)").days(1), 24);
        B.due("all but the first", Bench.with(row.toString(), "d10(k>0)").days(100), 0);
    }

    private static void litNoMoreWhenDone() {
        B.of("A DAY: one more is GUTTERED and it is LIT no more");
        PutOffWicks x = Bench.with("a5*", "d10(1=1)");
        x.days(1);
        B.due("lit", x.count(2), 0);
        B.due("light", x.light(16), 0);
        B.due("dark", x.dark(1), 0);
        B.due("length stays", x.thingIs(0, 1), 4);
    }

    private static void putOffGrows() {
        B.of("A DAY: else it was put off: DAYS one more, LENGTH one more");
        B.due("days", thing("a5", "b1(1=1)", 3, 3), 3);
        B.due("length", thing("a5", "b1(1=1)", 3, 1), 8);
        B.due("of a lit one days, too", thing("a5*", "b1(1=1)", 3, 3), 3);
        B.due("of a done one none", thing("a5", "d10(1=1)", 3, 3), 0);
    }

    private static void notIfLitStill() {
        B.of("A DAY: LENGTH one more (not if it is LIT still, behind its burning)");
        B.due("lit still", thing("a5*", "b0(1=1)", 1, 1), 5);
        B.due("lit still at 1", thing("a5*", "b4(1=1)", 1, 1), 1);
        B.due("burnt out", thing("a5*", "b5(1=1)", 1, 1), 1);
        B.due("lit by x", thing("a5", "x(1=1);b0(1=1)", 1, 1), 5);
        B.due("lit at 999", thing("a999*", "b0(1=1)", 5, 1), 999);
    }

    private static void theDayAtMost9999() {
        B.of("THE DAY is one more (9999 at most: then none goes by)");
        PutOffWicks x = Bench.with("a5");
        toDay(x, 9998);
        B.due("9998", x.count(0), 9998);
        x.days(1);
        B.due("9999", x.count(0), 9999);
        Bench.law(x, "d10(1=1);x(1=1)");
        int drawn = x.count(7);
        B.due("days(1)", x.days(1), 0);
        B.due("days(100)", x.days(100), 0);
        B.due("the day", x.count(0), 9999);
        B.due("no draw", x.count(7), drawn);
        B.due("not done", x.count(3), 0);
        B.due("not lit", x.count(2), 0);
        B.due("not put off", x.thingIs(0, 3), 9999);
        B.due("tried", x.tried(100, 0), 0);
        B.due("tried lit", x.tried(100, 2), 0);
        B.due("byWhen", x.byWhen(0, 100), -2);
        B.due("dark: it is", x.dark(100), 0);
        x.lit(0, true);
        B.due("dark", x.dark(100), -2);
        B.due("keep", x.keep(), 9999);
        Bench.parish(x, "a1");
        B.due("another parish", x.days(1), 0);
        B.due("its day", x.count(0), 9999);
    }

    private static void asManyAsCan() {
        B.of("6, 7: DAYS (1 to 100; as many as can)");
        PutOffWicks x = Bench.with("a5;b5", "d10(t=98&k=0);d10(t=99)");
        toDay(x, 50);
        PutOffWicks y = Bench.with("a5;b5");
        toDay(y, 9997);
        Bench.law(y, "d10(t=98&k=0);d10(t=99)");
        B.due("of a hundred all", x.tried(100, 0), 2);
        B.due("of a hundred two", y.tried(100, 0), 1);
        B.due("put off twice", y.tried(100, 41), 9999);
        B.due("byWhen", y.byWhen(0, 100), 2);
        B.due("byWhen of the other", y.byWhen(1, 100), -2);
        int drawn = y.count(7);
        B.due("days(100)", y.days(100), 1);
        B.due("the day", y.count(0), 9999);
        B.due("draws of two days", y.count(7), Bench.drawn(drawn, 8));
    }

    // ---- draws

    private static void aDrawMadeAlways() {
        B.of("A DAY: Then with another DRAW (made always)");
        B.due("no law", drawnBy("a5", "", 1), Bench.drawn(1, 2));
        B.due("d 0", drawnBy("a5", "d0(1=1)", 1), Bench.drawn(1, 2));
        B.due("d 10", drawnBy("a5", "d10(1=1)", 1), Bench.drawn(1, 2));
        B.due("one that waits", drawnBy("a5;b5<0", "d10(k=1)", 1), Bench.drawn(1, 4));
        B.due("24 things", drawnBy(Bench.times("a5", 24, ";"), "", 100), Bench.drawn(1, 4800));
        PutOffWicks none = new PutOffWicks();
        none.days(100);
        B.due("no things", none.count(7), 1);
    }

    private static int drawnBy(String parish, String law, int days) {
        PutOffWicks x = Bench.with(parish);
        if (!law.isEmpty()) {
            Bench.law(x, law);
        }
        x.days(days);
        return x.count(7);
    }

    private static void modulo65536() {
        B.of("DRAWS: X = (25173 X + 13849) modulo 65536");
        int[][] behindOne = {{0, 13849}, {1, 39022}, {2, 64195}, {3, 23832}, {65535, 54212}, {32768, 46617}};
        for (int[] pair : behindOne) {
            PutOffWicks x = Bench.with("a5");
            x.seed(pair[0]);
            x.days(1);
            B.due("two draws from " + pair[0], x.count(7), (int) ((25173L * pair[1] + 13849L) % 65536L));
        }
    }

    private static void modulo10() {
        B.of("DRAWS: X modulo 10");
        // behind 1 come 39022, 61087, 20196, 45005
        PutOffWicks x = Bench.with("a5;a5", "x(k=0&w=2|k=1&w=6)");
        B.due("2 and 6", x.tried(1, 2), 3);
        B.due("7 is below 8, 5 too", Bench.with("a5;a5", "d8(1=1)").tried(1, 3), 3);
        B.due("7 is not below 7, 5 is", Bench.with("a5;a5", "d7(1=1)").tried(1, 3), 2);
        B.due("5 is not below 5", Bench.with("a5;a5", "d5(1=1)").tried(1, 3), 0);
    }

    private static void theSeedIsOneAtFirst() {
        B.of("X is THE SEED at first, 1; 1: No THINGS, LAW; THE SEED 1");
        PutOffWicks x = new PutOffWicks();
        int[] want = {0, 0, 0, 0, 0, 0, 0, 1, 0};
        for (int what = 0; what < 9; what++) {
            B.due("count(" + what + ")", x.count(what), want[what]);
        }
        B.due("NONE", PutOffWicks.NONE, -1);
        B.due("no kept one", x.undo(), false);
        B.due("no tape", x.check(1), -2);
        Bench.parish(x, "a5");
        x.days(1);
        B.due("drawn from 1", x.count(7), Bench.drawn(1, 2));
    }

    // ---- promise 2

    private static void lighting() {
        litWithoutLengthIsRefused();
        soAlready();
        noSuchThing();
        itIsDone();
    }

    private static void litWithoutLengthIsRefused() {
        B.of("2: LIT without LENGTH: refused");
        PutOffWicks x = Bench.with("a0;b1;c999");
        B.due("0", x.lit(0, true), false);
        B.due("1", x.lit(1, true), true);
        B.due("999", x.lit(2, true), true);
        B.due("lit", x.count(2), 6);
        B.due("not lit without length", x.lit(0, false), true);
        x.days(1);
        B.due("grown by a day", x.lit(0, true), true);
    }

    private static void soAlready() {
        B.of("2: one that is so already: true, too");
        PutOffWicks x = Bench.with("a5;b5*");
        B.due("not lit", x.lit(0, false), true);
        B.due("lit", x.lit(1, true), true);
        B.due("as they were", x.count(2), 2);
        B.due("lit now", x.lit(0, true), true);
        B.due("lit again", x.lit(0, true), true);
        B.due("both", x.count(2), 3);
        B.due("out", x.lit(1, false), true);
        B.due("out again", x.lit(1, false), true);
        B.due("one", x.count(2), 1);
        B.due("none guttered", x.count(4), 0);
    }

    private static void noSuchThing() {
        B.of("2: false: no such ones");
        PutOffWicks x = Bench.with("a5;b5*");
        String before = Bench.look(x);
        for (int k : new int[] {-1, 2, 23, 24, 31, 32, 33, 64, Integer.MIN_VALUE, Integer.MAX_VALUE}) {
            B.due("lit(" + k + ", true)", x.lit(k, true), false);
            B.due("lit(" + k + ", false)", x.lit(k, false), false);
            B.due("behind it", Bench.look(x), before);
        }
        B.due("of none", new PutOffWicks().lit(0, false), false);
    }

    private static void itIsDone() {
        B.of("2: false: it is DONE");
        PutOffWicks x = Bench.with("a5*;b5*", "d10(k=0)");
        x.days(1);
        String before = Bench.look(x);
        B.due("lit", x.lit(0, true), false);
        B.due("not lit", x.lit(0, false), false);
        B.due("nothing changes", Bench.look(x), before);
    }

    // ---- promises 6 and 28

    private static void passing() {
        daysOutOfBounds();
        doneInThem();
        seedOutOfBounds();
        seedIsX();
    }

    private static void daysOutOfBounds() {
        B.of("6: DAYS (1 to 100); NONE: no such n");
        PutOffWicks x = Bench.with("a5;b5*", "d10(k=0)");
        String before = Bench.look(x);
        for (int n : new int[] {0, -1, 101, 1000, Integer.MIN_VALUE, Integer.MAX_VALUE}) {
            B.due("days(" + n + ")", x.days(n), -1);
            B.due("behind it", Bench.look(x), before);
        }
        B.due("days(1)", x.days(1), 1);
        B.due("days(100)", x.days(100), 0);
        B.due("the day", x.count(0), 101);
    }

    private static void doneInThem() {
        B.of("6: how many THINGS were DONE in them");
        PutOffWicks x = Bench.with("a5;b5;c5", "d10(k=0);d10(k=1&t=1);d10(k=2&t=5)");
        B.due("one", x.days(1), 1);
        B.due("one more", x.days(2), 1);
        B.due("none", x.days(2), 0);
        B.due("the last", x.days(1), 1);
        B.due("none is left", x.days(1), 0);
        B.due("of no things", new PutOffWicks().days(100), 0);
    }

    private static void seedOutOfBounds() {
        B.of("28: THE SEED (0 to 65535); false: no such number");
        PutOffWicks x = Bench.with("a5");
        x.days(1);
        String before = Bench.look(x);
        for (int seed : new int[] {-1, 65536, 65537, Integer.MIN_VALUE, Integer.MAX_VALUE}) {
            B.due("seed(" + seed + ")", x.seed(seed), false);
            B.due("behind it", Bench.look(x), before);
        }
    }

    private static void seedIsX() {
        B.of("28: THE SEED (X, too): true");
        PutOffWicks x = Bench.with("a5");
        for (int seed : new int[] {0, 1, 65534, 65535}) {
            B.due("seed(" + seed + ")", x.seed(seed), true);
            B.due("x", x.count(7), seed);
            x.days(1);
            B.due("drawn on", x.count(7), Bench.drawn(seed, 2));
        }
        B.due("the day goes on", x.count(0), 4);
    }

    // ---- promises 29 and 30

    private static void keeping() {
        whatIsKept();
        keptLast();
        undoneTwice();
        asManyAsThenAndNow();
        keptWithoutThings();
        noneWasKept();
    }

    private static void whatIsKept() {
        B.of("KEPT: THINGS' LENGTHS, LIT, DAYS, DONE, GUTTERED, THE DAY, X");
        PutOffWicks x = Bench.with("a50*;b7;c0;d9*", "d10(k=3&t=1);x(k=2)");
        x.days(2);
        String before = Bench.look(x);
        B.due("29: THE DAY", x.keep(), 2);
        B.due("keeping changes nothing", Bench.look(x), before);
        Bench.law(x, "d10(t=4)");
        x.days(3);
        x.seed(4711);
        Bench.law(x, "d10(k=3&t=1);x(k=2)");
        B.due("all are done", x.count(3), 15);
        B.due("undo", x.undo(), true);
        B.due("as it was", Bench.look(x), before);
    }

    private static void keptLast() {
        B.of("UNDONE: as they were KEPT last");
        PutOffWicks x = Bench.with("a5");
        B.due("kept on day 0", x.keep(), 0);
        x.days(3);
        B.due("kept on day 3", x.keep(), 3);
        x.days(4);
        x.undo();
        B.due("the day", x.count(0), 3);
        B.due("the length", x.thingIs(0, 1), 8);
    }

    private static void undoneTwice() {
        B.of("UNDONE: as they were KEPT last (again)");
        PutOffWicks x = Bench.with("a5");
        x.days(3);
        x.keep();
        for (int i = 0; i < 3; i++) {
            x.days(7);
            B.due("undo", x.undo(), true);
            B.due("the day", x.count(0), 3);
            B.due("length", x.thingIs(0, 1), 8);
        }
        B.due("undo at once", x.undo(), true);
        B.due("the day stays", x.count(0), 3);
    }

    private static void asManyAsThenAndNow() {
        B.of("(of as many THINGS as there were then and are now; those beyond stay as they are)");
        PutOffWicks x = Bench.with("a50*;b60*;c70", "d10(k=1)");
        x.days(1);
        x.keep();
        Bench.law(x, "d10(k=3)");
        Bench.parish(x, "p7;o8*<0;n9*<1;m6*;l5*");
        x.days(2);
        x.undo();
        int[][] want = {{15, 49, 1, 1, 0, -2}, {14, 59, 0, 0, 1, 0}, {13, 71, 0, 1, 0, 1}, {12, 5, 0, 0, 1, -2},
            {11, 3, 1, 2, 0, -2}};
        for (int k = 0; k < 5; k++) {
            for (int what = 0; what < 6; what++) {
                B.due("more now: thing " + k + " is " + what, x.thingIs(k, what), want[k][what]);
            }
        }
        B.due("as many as now", x.count(1), 5);
        B.due("lit", x.count(2), 1 + 16);
        B.due("done", x.count(3), 2 + 8);
        B.due("guttered", x.count(4), 1);
        B.due("the day", x.count(0), 1);
        Bench.parish(x, "k1");
        x.undo();
        B.due("fewer now", x.count(1), 1);
        B.due("lit of these", x.count(2), 1);
        B.due("done of these", x.count(3), 0);
        B.due("length", x.thingIs(0, 1), 49);
        Bench.parish(x, "k1;k2;k3");
        B.due("those beyond came not back", x.count(3), 0);
        x.undo();
        B.due("all three are kept still", x.thingIs(2, 1), 71);
        B.due("done, too", x.count(3), 2);
    }

    private static void keptWithoutThings() {
        B.of("(of as many THINGS as there were then: none)");
        PutOffWicks x = new PutOffWicks();
        B.due("keep", x.keep(), 0);
        String many = Bench.times("a5*", 24, ";");
        Bench.parish(x, many);
        x.days(2);
        B.due("undo", x.undo(), true);
        B.due("things", x.count(1), 24);
        B.due("all are lit", x.count(2), (1 << 24) - 1);
        B.due("length of the last", x.thingIs(23, 1), 3);
        B.due("the day", x.count(0), 0);
        B.due("x", x.count(7), 1);
        x.keep();
        x.days(3);
        x.undo();
        B.due("24 then and now", x.thingIs(23, 1), 3);
        B.due("all are lit again", x.count(2), (1 << 24) - 1);
    }

    private static void noneWasKept() {
        B.of("30: false: none was KEPT");
        PutOffWicks x = Bench.with("a5*;b6", "d10(k=1)");
        x.days(2);
        String before = Bench.look(x);
        B.due("undo", x.undo(), false);
        B.due("nothing changes", Bench.look(x), before);
        B.due("keep", x.keep(), 2);
        B.due("undo then", x.undo(), true);
    }
}
