/**
 * Each sentence on what is reckoned of the parish that names a boundary has a test of its own (==== 2, promises
 * 7 to 17, 32).
 */
public final class ReckoningBoundaryTests {
    private static final Bench B = new Bench();

    public static void main(String[] args) {
        tried();
        thingIs();
        byWhen();
        dark();
        pride();
        oldest();
        chain();
        orders();
        light();
        worstNews();
        median();
        count();
        B.end();
    }

    private static final int[] WILD = {-1, -2, -1000, 1000, Integer.MIN_VALUE, Integer.MAX_VALUE};

    /** The first things of a parish, so many, put off one day, those behind them some more. */
    private static PutOffWicks putOff(String now, int kept, int more) {
        PutOffWicks x = kept == 0 ? new PutOffWicks() : Bench.with(Bench.times("a1", kept, ";"));
        x.days(1);
        x.keep();
        Bench.parish(x, now);
        x.days(more);
        x.undo();
        return x;
    }

    // ---- 7

    private static void tried() {
        triedDaysOutOfBounds();
        triedNoSuchWhat();
        triedOfNothing();
        triedChangesNothing();
        triedByTheDrawsThatWillCome();
        triedDoneInThem();
        triedGutteredThen();
    }

    private static void triedDaysOutOfBounds() {
        B.of("7: DAYS (1 to 100) that are tried; NONE: no such ones");
        PutOffWicks x = Bench.with("a5;b5*", "d10(t=99&k=0)");
        String before = Bench.look(x);
        for (int n : new int[] {0, -1, 101, Integer.MIN_VALUE, Integer.MAX_VALUE}) {
            for (int what : new int[] {0, 1, 2, 3, 10, 40}) {
                B.due("tried(" + n + ", " + what + ")", x.tried(n, what), -1);
            }
        }
        B.due("nothing changes", Bench.look(x), before);
        B.due("tried(1, 41)", x.tried(1, 41), 1);
        B.due("tried(99, 0)", x.tried(99, 0), 0);
        B.due("tried(100, 0)", x.tried(100, 0), 1);
    }

    private static void triedNoSuchWhat() {
        B.of("7: what 0, 1, 2, 3, 10 + k, 40 + k; NONE: no such ones");
        PutOffWicks x = Bench.with("a5;b6*;c7");
        for (int what : new int[] {-1, 4, 5, 9, 13, 14, 33, 34, 39, 43, 44, 63, 64, 100}) {
            B.due("what " + what, x.tried(1, what), -1);
        }
        for (int what : WILD) {
            B.due("what " + what, x.tried(1, what), -1);
        }
        int[] lengths = {6, 5, 8};
        for (int k = 0; k < 3; k++) {
            B.due("length of " + k, x.tried(1, 10 + k), lengths[k]);
            B.due("days of " + k, x.tried(1, 40 + k), 1);
        }
        PutOffWicks all = Bench.with(Bench.times("a5", 24, ";"));
        B.due("10 + 23", all.tried(1, 33), 6);
        B.due("10 + 24", all.tried(1, 34), -1);
        B.due("39", all.tried(1, 39), -1);
        B.due("40", all.tried(1, 40), 1);
        B.due("40 + 23", all.tried(1, 63), 1);
        B.due("40 + 24", all.tried(1, 64), -1);
    }

    private static void triedOfNothing() {
        B.of("7: of no THINGS");
        PutOffWicks x = new PutOffWicks();
        for (int what = 0; what < 4; what++) {
            B.due("what " + what, x.tried(100, what), 0);
        }
        B.due("what 10", x.tried(1, 10), -1);
        B.due("what 40", x.tried(1, 40), -1);
    }

    private static void triedChangesNothing() {
        B.of("TRIED (nothing is changed)");
        PutOffWicks x = Bench.with("a5*;b6;c0*<1", "d5(w<7);x(w=3);b2(k=0)");
        x.days(2);
        x.keep();
        x.days(1);
        Bench.fill(x, 1, 'a');
        String before = Bench.look(x);
        for (int n = 1; n <= 100; n += 33) {
            for (int what : new int[] {0, 1, 2, 3, 10, 11, 12, 40, 41, 42}) {
                x.tried(n, what);
            }
        }
        x.byWhen(0, 100);
        x.dark(100);
        B.due("behind all", Bench.look(x), before);
        x.undo();
        B.due("the kept one, too", x.count(0), 2);
    }

    private static void triedByTheDrawsThatWillCome() {
        B.of("TRIED are n DAYS by the DRAWS that will come");
        for (int seed = 0; seed < 30; seed++) {
            PutOffWicks x = Bench.with("a5*;b6;c3*<1;d0", "d4(w<7);x(w=3);b2(k=0)");
            x.seed(seed);
            int done = x.tried(9, 0);
            int guttered = x.tried(9, 1);
            int lit = x.tried(9, 2);
            int doneBits = x.tried(9, 3);
            int length = x.tried(9, 13);
            int days = x.tried(9, 43);
            B.due("done", x.days(9), done);
            B.due("guttered", x.count(4), guttered);
            B.due("lit", x.count(2), lit);
            B.due("done ones", x.count(3), doneBits);
            B.due("length", x.thingIs(3, 1), length);
            B.due("days", x.thingIs(3, 3), days);
        }
    }

    private static void triedDoneInThem() {
        B.of("7: what 0 THINGS DONE in them, 3 DONE ones then");
        PutOffWicks x = Bench.with("a5;b6;c7", "d10(k=0);d10(k=2&t=3)");
        x.days(1);
        B.due("none yet", x.tried(2, 0), 0);
        B.due("one in them", x.tried(3, 0), 1);
        B.due("two then", x.tried(3, 3), 5);
        PutOffWicks all = Bench.with(Bench.times("a5*", 24, ";"), "d10(1=1)");
        B.due("24", all.tried(1, 0), 24);
        B.due("24 bits", all.tried(1, 3), (1 << 24) - 1);
        B.due("24 guttered", all.tried(1, 1), 24);
    }

    private static void triedGutteredThen() {
        B.of("7: what 1 GUTTERED then, 2 LIT ones then");
        PutOffWicks x = Bench.with("a50*;b60*;c70*", "d10(k=0);d10(k=2&t=3)");
        x.days(1);
        B.due("one ahead of them", x.tried(2, 1), 1);
        B.due("one more then", x.tried(3, 1), 2);
        B.due("lit", x.tried(2, 2), 6);
        B.due("lit then", x.tried(3, 2), 2);
    }

    // ---- 8

    private static void thingIs() {
        noSuchThingIs();
        noSuchWhatOfAThing();
        waitsForNone();
    }

    private static void noSuchThingIs() {
        B.of("8: NONE for others (no such THING)");
        PutOffWicks x = Bench.with("a5;b6");
        for (int what = 0; what < 6; what++) {
            B.due("thing 2", x.thingIs(2, what), -1);
            B.due("of none", new PutOffWicks().thingIs(0, what), -1);
            for (int k : WILD) {
                B.due("thing " + k, x.thingIs(k, what), -1);
            }
        }
        // bits of a thing 32 would be those of thing 0
        B.due("thing 32", x.thingIs(32, 2), -1);
    }

    private static void noSuchWhatOfAThing() {
        B.of("8: what 0 to 5; NONE for others");
        PutOffWicks x = Bench.with("p5*");
        int[] want = {15, 5, 1, 0, 0, -2};
        for (int what = 0; what < 6; what++) {
            B.due("what " + what, x.thingIs(0, what), want[what]);
        }
        B.due("what 6", x.thingIs(0, 6), -1);
        for (int what : WILD) {
            B.due("what " + what, x.thingIs(0, what), -1);
        }
    }

    private static void waitsForNone() {
        B.of("8: 5 what it WAITS for (none: -2)");
        PutOffWicks x = Bench.with("a5;b6<0;c7", "d10(k=0)");
        B.due("none", x.thingIs(0, 5), -2);
        B.due("thing 0", x.thingIs(1, 5), 0);
        B.due("none of the last", x.thingIs(2, 5), -2);
        x.days(1);
        B.due("one that is done", x.thingIs(1, 5), 0);
    }

    // ---- 9

    private static void byWhen() {
        byWhenOutOfBounds();
        byWhenItIs();
        byWhenFirst();
        byWhenNotInThese();
    }

    private static void byWhenOutOfBounds() {
        B.of("9: n DAYS (1 to 100); NONE: no such ones");
        PutOffWicks x = Bench.with("a5;b6", "d10(k=0)");
        x.days(1);
        for (int n : new int[] {0, -1, 101, Integer.MIN_VALUE, Integer.MAX_VALUE}) {
            B.due("n " + n, x.byWhen(1, n), -1);
            B.due("n " + n + " of one that is done", x.byWhen(0, n), -1);
        }
        for (int k : WILD) {
            B.due("thing " + k, x.byWhen(k, 5), -1);
        }
        B.due("thing 2", x.byWhen(2, 5), -1);
        B.due("of none", new PutOffWicks().byWhen(0, 5), -1);
    }

    private static void byWhenItIs() {
        B.of("9: (0: it is)");
        PutOffWicks x = Bench.with("a5;b6", "d10(k=0)");
        B.due("it is not yet", x.byWhen(0, 1), 1);
        x.days(1);
        B.due("it is", x.byWhen(0, 1), 0);
        B.due("in a hundred", x.byWhen(0, 100), 0);
    }

    private static void byWhenFirst() {
        B.of("BY WHEN: behind how many of n DAYS a THING is DONE first");
        PutOffWicks x = Bench.with("a5;b6<0;c7", "d10(k=0&t=3);d10(k=1);d10(k=2&t=99)");
        B.due("on the fourth day", x.byWhen(0, 100), 4);
        B.due("who waits, the same day", x.byWhen(1, 100), 4);
        B.due("on the hundredth", x.byWhen(2, 100), 100);
    }

    private static void byWhenNotInThese() {
        B.of("9: -2: not in these");
        PutOffWicks x = Bench.with("a5;b6", "d10(k=0&t=3)");
        B.due("in 4", x.byWhen(0, 4), 4);
        B.due("in 3", x.byWhen(0, 3), -2);
        B.due("never", x.byWhen(1, 100), -2);
    }

    // ---- 10

    private static void dark() {
        darkOutOfBounds();
        darkItIs();
        darkFirst();
        darkNotInThese();
    }

    private static void darkOutOfBounds() {
        B.of("10: DARK in n DAYS (1 to 100); NONE: no such n");
        PutOffWicks x = Bench.with("a5*");
        for (int n : new int[] {0, -1, 101, Integer.MIN_VALUE, Integer.MAX_VALUE}) {
            B.due("n " + n, x.dark(n), -1);
            B.due("n " + n + " of none", new PutOffWicks().dark(n), -1);
        }
    }

    private static void darkItIs() {
        B.of("10: (0: it is)");
        PutOffWicks x = Bench.with("a5;b5", "x(1=1)");
        B.due("it is, though not for long", x.dark(100), 0);
        B.due("without things", new PutOffWicks().dark(1), 0);
        B.due("lit without length", Bench.with("a0*").dark(1), 0);
    }

    private static void darkFirst() {
        B.of("DARK: behind how many nothing is LIT first");
        B.due("burnt out", Bench.with("a3*;b7*").dark(100), 7);
        B.due("lit again later", Bench.with("a2*", "x(t=5)").dark(100), 2);
        B.due("done", Bench.with("a99*", "d10(t=1)").dark(100), 2);
        B.due("one that is lit as another goes out", Bench.with("a2*;b9", "x(k=1&t=1)").dark(100), 11);
        B.due("on the hundredth", Bench.with("a100*").dark(100), 100);
    }

    private static void darkNotInThese() {
        B.of("10: -2: not in these");
        B.due("in 2", Bench.with("a3*").dark(2), -2);
        B.due("in 3", Bench.with("a3*").dark(3), 3);
        B.due("101", Bench.with("a101*").dark(100), -2);
    }

    // ---- 11

    private static void pride() {
        prideOfLikeOnes();
        prideInAll();
        prideNothingIsLeft();
        prideNoSuchWhat();
    }

    private static void prideOfLikeOnes() {
        B.of("PRIDE (of like ones the lowest)");
        PutOffWicks x = Bench.with("p1;c1;d1");
        B.due("all 0", x.pride(0), 2);
        B.due("0 days", x.pride(1), 0);
        x.days(3);
        B.due("all 3", x.pride(0), 2);
        B.due("3 days", x.pride(1), 3);
        PutOffWicks two = Bench.with("p1;c1;p1;c1;b1");
        two.days(1);
        B.due("twice two", two.pride(0), 2);
        B.due("2 days", two.pride(1), 2);
    }

    private static void prideInAll() {
        B.of("PRIDE: whose THINGS not DONE were put off most DAYS in all");
        PutOffWicks x = Bench.with("a1;b1;b1;a1;a1", "d10(t=4&k>2)");
        x.days(4);
        B.due("a of three", x.pride(0), 0);
        B.due("12 days", x.pride(1), 12);
        x.days(1);
        B.due("b of two: done ones do not count", x.pride(0), 1);
        B.due("10 days", x.pride(1), 10);
        PutOffWicks all = Bench.with(Bench.times("p1", 24, ";"));
        all.days(100);
        B.due("24 times a hundred", all.pride(1), 2400);
        B.due("p", all.pride(0), 15);
    }

    private static void prideNothingIsLeft() {
        B.of("11: what 0 whose (nothing is left: -2), 1 how many DAYS (0 then)");
        PutOffWicks x = Bench.with("a1;b1", "d10(t=2)");
        x.days(3);
        B.due("whose", x.pride(0), -2);
        B.due("how many", x.pride(1), 0);
        B.due("of none", new PutOffWicks().pride(0), -2);
        B.due("of none", new PutOffWicks().pride(1), 0);
    }

    private static void prideNoSuchWhat() {
        B.of("11: NONE: no such what");
        PutOffWicks x = Bench.with("a1");
        B.due("what 2", x.pride(2), -1);
        for (int what : WILD) {
            B.due("what " + what, x.pride(what), -1);
            B.due("what " + what + " of none", new PutOffWicks().pride(what), -1);
        }
    }

    // ---- 12

    private static void oldest() {
        B.of("OLDEST: the THING not DONE put off longest (of like ones the lowest)");
        PutOffWicks like = Bench.with("c1;b1;a1", "d10(k=0&t=2)");
        B.due("all 0", like.oldest(), 0);
        like.days(2);
        B.due("all 2", like.oldest(), 0);
        like.days(1);
        B.due("a done one does not count", like.oldest(), 1);
        // put off 1, 1, 4, 4
        B.due("the third", putOff("a1;a1;a1;a1", 2, 4).oldest(), 2);
        B.due("the last of all", putOff(Bench.times("a1", 24, ";"), 23, 4).oldest(), 23);
        B.of("12: -2: nothing is left");
        Bench.law(like, "d10(1=1)");
        like.days(1);
        B.due("all are done", like.oldest(), -2);
        B.due("of none", new PutOffWicks().oldest(), -2);
    }

    // ---- 13

    private static void chain() {
        B.of("CHAIN: from a THING on (it, too; DONE or not)");
        StringBuilder row = new StringBuilder("a1");
        for (int k = 1; k < 24; k++) {
            row.append(";a1<").append(k - 1);
        }
        PutOffWicks x = Bench.with(row.toString(), "d10(k<12)");
        for (int k = 0; k < 24; k++) {
            B.due("chain(" + k + ")", x.chain(k), k + 1);
        }
        x.days(1);
        B.due("twelve are done", x.count(3), 4095);
        B.due("of one that is done", x.chain(11), 12);
        B.due("of one that is not", x.chain(23), 24);
        PutOffWicks star = Bench.with("a1;" + Bench.times("a1<0", 23, ";"));
        B.due("all for one", star.chain(23), 2);
        B.due("the one", star.chain(0), 1);
        B.of("13: NONE: no such one");
        B.due("chain(24)", x.chain(24), -1);
        B.due("of two", Bench.with("a1;a1").chain(2), -1);
        B.due("of none", new PutOffWicks().chain(0), -1);
        for (int k : WILD) {
            B.due("chain(" + k + ")", x.chain(k), -1);
        }
    }

    // ---- 14

    private static void orders() {
        ordersOfTwelve();
        ordersOfMore();
        ordersNoneLeft();
        ordersDoneStandAhead();
    }

    private static void ordersOfTwelve() {
        B.of("ORDERS: in how many orders (of 12 at most)");
        int[] free = {1, 2, 6, 24, 120, 720, 5040, 40320, 362880, 3628800, 39916800, 479001600};
        for (int n = 1; n <= 12; n++) {
            B.due(n + " free ones", Bench.with(Bench.times("a1", n, ";")).orders(), free[n - 1]);
        }
        B.due("12 in a row", Bench.with("a1;a1<0;a1<1;a1<2;a1<3;a1<4;a1<5;a1<6;a1<7;a1<8;a1<9;a1<10").orders(), 1);
        B.due("11 behind one", Bench.with("a1;" + Bench.times("a1<0", 11, ";")).orders(), 39916800);
        B.due("six twos", Bench.with("a1;a1<0;a1;a1<2;a1;a1<4;a1;a1<6;a1;a1<8;a1;a1<10").orders(), 479001600 / 64);
        B.due("a tree", Bench.with("a1;a1<0;a1<0;a1<1;a1<1").orders(), 8);
    }

    private static void ordersOfMore() {
        B.of("ORDERS: (more: -4)");
        B.due("13", Bench.with(Bench.times("a1", 13, ";")).orders(), -4);
        B.due("24", Bench.with(Bench.times("a1", 24, ";")).orders(), -4);
        B.due("13 in a row", Bench.with("a1;" + Bench.times("a1<0", 12, ";")).orders(), -4);
        PutOffWicks x = Bench.with(Bench.times("a1", 24, ";"), "d10(t=0&k<11);d10(t=1&k=23)");
        x.days(1);
        B.due("13 of 24", x.orders(), -4);
        x.days(1);
        B.due("12 of 24", x.orders(), 479001600);
    }

    private static void ordersNoneLeft() {
        B.of("ORDERS: (none left: 1)");
        PutOffWicks x = Bench.with("a1;a1;a1", "d10(t=0&k>0);d10(t=1)");
        B.due("three", x.orders(), 6);
        x.days(1);
        B.due("one left", x.orders(), 1);
        x.days(1);
        B.due("none left", x.orders(), 1);
        B.due("no things", new PutOffWicks().orders(), 1);
        PutOffWicks all = Bench.with(Bench.times("a1", 24, ";"), "d10(1=1)");
        all.days(1);
        B.due("none of 24", all.orders(), 1);
    }

    private static void ordersDoneStandAhead() {
        B.of("14: ORDERS of those not DONE (those DONE stand ahead of all)");
        PutOffWicks x = Bench.with("a1;a1<0;a1<1;a1<0;a1", "d10(t=0&k=0);d10(t=1&k=4)");
        B.due("ahead", x.orders(), 15);
        x.days(1);
        B.due("two in a row and two free ones", x.orders(), 12);
        x.days(1);
        B.due("two in a row and a free one", x.orders(), 3);
        ordersDoneOfAnotherParish();
    }

    /** By undo over another parish one is DONE that waits for one that is not: it stands ahead all the same. */
    private static void ordersDoneOfAnotherParish() {
        PutOffWicks x = Bench.with("a1;a1;a1;a1", "d10(k=1)");
        x.days(1);
        x.keep();
        Bench.parish(x, "a1;a1<0;a1<1;a1<2;a1<0");
        B.due("nothing is done", x.orders(), 4);
        x.undo();
        B.due("done", x.count(3), 2);
        B.due("0, and what waits for it; 2, and what waits for it", x.orders(), 6);
        Bench.parish(x, "a1;a1<0;a1<1");
        x.undo();
        B.due("0 and 2 in any order", x.orders(), 2);
    }

    // ---- 15

    private static void light() {
        B.of("LIGHT: LENGTHS of LIT ones of one, of all");
        PutOffWicks x = Bench.with("a10*;p20*;a5;p7*;b0*");
        B.due("a: what is not lit does not count", x.light(0), 10);
        B.due("b", x.light(1), 0);
        B.due("p", x.light(15), 27);
        B.due("o", x.light(14), 0);
        B.due("all", x.light(16), 37);
        PutOffWicks most = Bench.with(Bench.times("p999*", 24, ";"));
        B.due("most of one", most.light(15), 23976);
        B.due("most of all", most.light(16), 23976);
        B.due("of none", new PutOffWicks().light(16), 0);
        B.due("of one of none", new PutOffWicks().light(15), 0);
        B.of("15: PEOPLE (0 to 15), 16: of all; NONE: no such one");
        B.due("light(17)", x.light(17), -1);
        for (int p : WILD) {
            B.due("light(" + p + ")", x.light(p), -1);
        }
    }

    // ---- 16

    private static void worstNews() {
        B.of("WORST NEWS: (most LIGHT; of like ones the lowest); how much");
        PutOffWicks x = Bench.with("p10*;c20*;p10*;d20*;a99");
        B.due("like ones", x.worstNews(0), 2);
        B.due("how much", x.worstNews(1), 20);
        x.lit(1, false);
        B.due("like ones without c", x.worstNews(0), 3);
        x.lit(4, true);
        B.due("a", x.worstNews(0), 0);
        B.due("99", x.worstNews(1), 99);
        PutOffWicks most = Bench.with(Bench.times("p999*", 24, ";"));
        B.due("most of all", most.worstNews(1), 23976);
        B.due("p", most.worstNews(0), 15);
        B.due("a light of 1", Bench.with("a99;p1*").worstNews(0), 15);
        B.of("16: what 0 who (nothing is LIT: -2), 1 how much (0 then)");
        PutOffWicks out = Bench.with("a99;b5;c0*");
        B.due("who", out.worstNews(0), -2);
        B.due("how much", out.worstNews(1), 0);
        B.due("of none", new PutOffWicks().worstNews(0), -2);
        B.due("how much of none", new PutOffWicks().worstNews(1), 0);
        B.of("16: NONE: no such what");
        B.due("what 2", x.worstNews(2), -1);
        for (int what : WILD) {
            B.due("what " + what, x.worstNews(what), -1);
            B.due("what " + what + " where nothing is lit", out.worstNews(what), -1);
        }
    }

    // ---- 17

    private static void median() {
        B.of("MEDIAN: the middle one (of two the lower)");
        B.due("of one", putOff("a1", 0, 5).median(), 5);
        B.due("of two: 1 and 5", putOff("a1;a1", 1, 5).median(), 1);
        B.due("of three: 1 5 5", putOff("a1;a1;a1", 1, 5).median(), 5);
        B.due("of three: 1 1 5", putOff("a1;a1;a1", 2, 5).median(), 1);
        B.due("of four: 1 1 5 5", putOff("a1;a1;a1;a1", 2, 5).median(), 1);
        B.due("of four: 1 5 5 5", putOff("a1;a1;a1;a1", 1, 5).median(), 5);
        B.due("of three: 1 2 2", putOff("a1;a1;a1", 1, 2).median(), 2);
        B.due("of two: 1 2", putOff("a1;a1", 1, 2).median(), 1);
        String all = Bench.times("a1", 24, ";");
        B.due("of 24: 12 and 12", putOff(all, 12, 5).median(), 1);
        B.due("of 24: 11 and 13", putOff(all, 11, 5).median(), 5);
        B.of("MEDIAN: DAYS put off of THINGS not DONE, by their height");
        PutOffWicks x = Bench.with("a1;a1;a1;a1;a1", "d10(t=1&k=0);d10(t=3&k=1)");
        x.days(5);
        B.due("done ones do not count", x.median(), 5);
        B.due("at first", Bench.with("a1;a1").median(), 0);
        B.of("17: -2: nothing is left");
        PutOffWicks done = Bench.with("a1;a1", "d10(t=2)");
        done.days(3);
        B.due("all are done", done.median(), -2);
        B.due("of none", new PutOffWicks().median(), -2);
    }

    // ---- 32

    private static void count() {
        B.of("32: 0 to 8. NONE for others");
        PutOffWicks x = Bench.with("a10*;p20*;p5*;c9", "d10(k=1);d10(k=3);d0(1=1)");
        x.days(2);
        Bench.fill(x, 2, 'a');
        int[] want = {2, 4, 5, 10, 1, 3, 40, Bench.drawn(1, 12), 1 | 1 << 15};
        for (int what = 0; what < 9; what++) {
            B.due("count(" + what + ")", x.count(what), want[what]);
        }
        B.due("count(9)", x.count(9), -1);
        for (int what : WILD) {
            B.due("count(" + what + ")", x.count(what), -1);
        }
        B.of("32: 8 whose THINGS are not DONE (bits)");
        PutOffWicks done = Bench.with("a1;p1;c1;d1", "d10(1=1)");
        done.days(1);
        B.due("nothing is left", done.count(8), 0);
        B.due("all of them", done.count(3), 15);
        StringBuilder people = new StringBuilder("a1");
        for (int p = 1; p < 16; p++) {
            people.append(';').append((char) ('a' + p)).append(1);
        }
        B.due("all people", Bench.with(people.toString()).count(8), 65535);
        B.due("one with a thing done and one not", half().count(8), 1);
    }

    private static PutOffWicks half() {
        PutOffWicks x = Bench.with("a1;a1", "d10(k=0)");
        x.days(1);
        return x;
    }
}
