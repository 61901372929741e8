/** Each promise of the document by hand: ordinary inputs, the edges it names, wrong inputs. */
public final class PromiseTests {
    private static final Bench B = new Bench();

    public static void main(String[] args) {
        promise1();
        promise2();
        promise3();
        promise4Faults();
        promise4Rules();
        promise4Facts();
        promise4Refused();
        promise5();
        promise6();
        promise6Edges();
        promise7();
        promise8();
        promise9();
        promise10();
        promise11();
        promise12();
        promise13();
        promise14();
        promise15();
        promise16();
        promise17();
        promise18Faults();
        promise18();
        promise19();
        promise20();
        promise21();
        promise22();
        promise23();
        promise24();
        promise25();
        promise26();
        promise27();
        promise28();
        promise29And30();
        promise31();
        promise32();
        B.end();
    }

    private static void promise1() {
        PutOffWicks x = new PutOffWicks();
        for (int what = 0; what <= 8; what++) {
            B.due("new count(" + what + ")", x.count(what), what == 7 ? 1 : 0);
        }
        B.due("new undo", x.undo(), false);
        B.due("new chain", x.chain(0), -1);
        B.due("new thingIs", x.thingIs(0, 0), -1);
        B.due("NONE", PutOffWicks.NONE, -1);
    }

    private static void promise2() {
        PutOffWicks x = Bench.with("a5;b0;c7*", "d10(k=2)");
        B.due("lit -1", x.lit(-1, true), false);
        B.due("lit 3", x.lit(3, true), false);
        B.due("lit 3 not", x.lit(3, false), false);
        B.due("lit", x.lit(0, true), true);
        B.due("lit again", x.lit(0, true), true);
        B.due("is lit", x.thingIs(0, 2), 1);
        B.due("without length", x.lit(1, true), false);
        B.due("not lit without length", x.lit(1, false), true);
        B.due("out", x.lit(0, false), true);
        B.due("out again", x.lit(0, false), true);
        B.due("is out", x.thingIs(0, 2), 0);
        B.due("one day", x.days(1), 1);
        B.due("done one", x.lit(2, true), false);
        B.due("done one out", x.lit(2, false), false);
        B.due("gutters at doing alone", x.count(4), 1);
    }

    private static void promise3() {
        PutOffWicks x = new PutOffWicks();
        for (int i = 1; i <= 13; i++) {
            B.due("feed " + i, x.feed(0x01020304, -1, 0x80000000, 0, i), 20 * i);
        }
        B.due("a 14th feed", x.feed(1, 2, 3, 4, 5), -1);
        B.due("the tape stays", x.count(6), 260);
        B.due("halves of the first two", x.halves(2, 1), 1);
        B.due("empty then", x.count(6), 0);
        x.feed(0x01020304, -1, 0x80000000, 0, 0);
        B.due("255s are no signs below 0", x.halves(8, 1), 10);
        x.feed(0, 0, 0, 0, 0x00000009);
        B.due("the last byte is the lowest", x.putsOff(16, 10, false, 1), 0);
        x.feed(7, 0, 0, 0, 0);
        B.due("the fourth byte", x.cord(4, 1), 7);
    }

    private static void lawFault(String text, int want) {
        PutOffWicks x = new PutOffWicks();
        Bench.law(x, "x(1=2);x(1=3)");
        B.due("law " + text, Bench.law(x, text), want);
        B.due("tape behind law " + text, x.count(6), 0);
        B.due("rules behind law " + text, x.count(5), want > 0 ? want : 2);
    }

    private static void promise4Faults() {
        lawFault("d5(k=0)", 1);
        lawFault("d5(k=0);", -1008);
        lawFault("d5(k=0)x", -1007);
        lawFault(";d5(k=0)", -1000);
        lawFault("D5(k=0)", -1000);
        lawFault("d(k=0)", -1001);
        lawFault("x5(k=0)", -1001);
        lawFault("x(k=0", -1005);
        lawFault("x(k=", -1004);
        lawFault("x(k", -1003);
        lawFault("x()", -1002);
        lawFault("x(k)", -1003);
        lawFault("x(k==0)", -1004);
        lawFault("x(k=0=0)", -1005);
        lawFault("x(k=0&)", -1006);
        lawFault("x(k=0|!)", -1007);
        lawFault("x(k=-1)", -1004);
        lawFault("x(z=1)", -1002);
        lawFault("x([k=1)", -1004);
        lawFault("x((k=1)", -1007);
        lawFault("x((k)=1)", -1004);
        lawFault("x([k=1]=1)", -1004);
        lawFault("x(!k)", -1004);
        lawFault("x(k1=1)", -1003);
        lawFault("x(1k=1)", -1003);
        lawFault("d1+(k=0)", -1003);
        lawFault("d[1(k=0)", -1003);
        lawFault("d[](k=0)", -1002);
        lawFault("d 5(k=0)", -1001);
        lawFault("x(12345=99999)", 1);
        lawFault("x(123456=1)", -2007);
        lawFault("d000001(k=0)", -2006);
        lawFault(Bench.times("x(1=1)", 16, ";"), 16);
        lawFault(Bench.times("x(1=1)", 17, ";"), -4112);
        lawFault(Bench.times("x(1=1)", 16, ";") + ";", -1112);
        lawFault(Bench.times("x(1=1)", 16, ";") + ";k", -1112);
        lawFault(Bench.times("x(1=1)", 16, ";") + ";b", -4112);
        lawFault("x((((((1=1))))))", 1);
        lawFault("x(((((((1=1)))))))", -5007);
        lawFault("x(!!!!!1=1)", 1);
        lawFault("x(!!!!!!1=1)", -5007);
        lawFault("x(!!!!!1=1&!!!!!1=1)", 1);
        lawFault("x([[[[[1]]]]]=[[[[[1]]]]])", 1);
        lawFault("x([[[[[[1]]]]]]=1)", -5007);
        lawFault("x(!(![[1]]=[[[1]]]))", -5013);
        lawFault("d[[[[[[1]]]]]](1=1)", 1);
        lawFault("d[[[[[[[1]]]]]]](1=1)", -5007);
        lawFault("d[[[[[[1]]]]]]((((((1=1))))))", 1);
        PutOffWicks x = new PutOffWicks();
        x.feed(1, 2, 3, 4, 5);
        B.due("law 0", x.law(0), -1);
        B.due("law 21", x.law(21), -1);
        B.due("law -1", x.law(-1), -1);
        B.due("tape stays", x.count(6), 20);
        for (int i = 0; i < 12; i++) {
            x.feed(1, 2, 3, 4, 5);
        }
        B.due("law 241", x.law(241), -1);
        B.due("tape stays whole", x.count(6), 260);
        B.due("law 240", x.law(240), -1000);
        B.due("empty then", x.count(6), 0);
    }

    /** Lays down one law over a parish and tries a day: which are lit. */
    private static void litBy(String parish, String law, int want) {
        B.due("lit by " + law, Bench.with(parish, law).tried(1, 2), want);
    }

    private static void lengthBy(String law, int want) {
        B.due("length by " + law, Bench.with("a500*", law).tried(1, 10), want);
    }

    private static void promise4Rules() {
        String eight = Bench.times("a9", 8, ";");
        litBy(eight, "x(k=1|k=2&k=3)", 2);
        litBy(eight, "x(k=1|k=2);x(k=4)", 2 + 4 + 16);
        litBy(eight, "x((k=1|k=2)&k>1)", 4);
        litBy(eight, "x(!k=1&k<3)", 5);
        litBy(eight, "x(!(k=1&k<3))", 255 - 2);
        litBy(eight, "x(!!k=1)", 2);
        litBy(eight, "x(k+1*2=5)", 8);
        litBy(eight, "x([k+1]*2=6)", 4);
        litBy(eight, "x(k-1-1=2)", 16);
        litBy(eight, "x(k*7/2%4=3)", 2 + 4);
        litBy(eight, "x(k%3=2)", 4 + 32);
        litBy(eight, "x(0-k/2=0-2)", 16 + 32);
        litBy(eight, "x([0-k]%3=0-1)", 2 + 16 + 128);
        litBy(eight, "x(99999*99999=1409865409)", 0);
        litBy(eight, "x(65536*32768<0)", 255);
        litBy(eight, "x(65536*32768/[0-1]=65536*32768)", 255);
        litBy(eight, "x(65536*65536=0)", 255);
        litBy(eight, "x(k>6|k<1)", 129);
        lengthBy("b3(1=1)", 497);
        lengthBy("b3(1=2);b4(1=1);b5(1=1)", 496);
        lengthBy("b3(1=2)", 499);
        lengthBy("b0(1=1)", 500);
        lengthBy("b0-5(1=1)", 500);
        lengthBy("b99(1=1)", 401);
        lengthBy("b100(1=1)", 401);
        lengthBy("b2+3*4(1=1)", 486);
        lengthBy("d10(1=2);x(1=1);b7(1=1)", 493);
        PutOffWicks x = Bench.with(eight, "d11(k<4);d0-1(k=4);d10(k=4);d9+1(k=5)");
        B.due("bounds of d", x.tried(1, 3), 15 + 32);
        B.due("a law in place of the one before", Bench.law(x, "b1(1=1)"), 1);
        B.due("rules", x.count(5), 1);
        B.due("none of d", x.tried(100, 3), 0);
    }

    private static void promise4Facts() {
        String parish = "a5;b6<0;b7*<0;p0;a8<1";
        litBy(parish, "x(p=1)", 2 + 4);
        litBy(parish, "x(p=15)", 4);
        litBy(parish, "x(l=8|l=5)", 1 + 4 + 16);
        litBy("a5*;a6", "b50(i=1);x(k=1&i=0)", 2);
        B.due("i is as it was ahead of x", Bench.with("a50", "x(1=1);b20(i=1);b30(i=0)").tried(1, 10), 20);
        litBy(parish, "x(m=2)", 1 + 2 + 4 + 16);
        litBy(parish, "x(o=2)", 1 + 4);
        litBy(parish, "x(o=1)", 2 + 4);
        B.due("o counts done ones, too", Bench.with("a5;a5<0;a5<0", "d10(k=0);d10(k=1&t=0);x(o=2&k=0)").tried(1, 1), 1);
        PutOffWicks m = Bench.with("a5;a5;a5", "d10(k=0);x(m=2)");
        B.due("m is as it is then", m.tried(1, 2), 2 + 4);
        PutOffWicks n = Bench.with("a5;a5", "x(n=2&k=1)");
        B.due("n on day 2", n.tried(2, 2), 0);
        B.due("n on day 3", n.tried(3, 2), 2);
        PutOffWicks t = Bench.with("a5", "x(t=1)");
        B.due("t on day 1", t.tried(1, 2), 0);
        B.due("t on day 2", t.tried(2, 2), 1);
        t.days(100);
        t.lit(0, false);
        B.due("t modulo 100: 0", t.tried(1, 2), 0);
        B.due("t modulo 100: 1", t.tried(2, 2), 1);
        // 1 -> 39022 -> 61087 -> 20196 -> 45005: draws 2, 7, 6, 5
        litBy("a5;a5", "x(w=2)", 1);
        litBy("a5;a5", "x(w=6)", 2);
        litBy("a5;a5", "x(w=7|w=5)", 0);
        B.due("5 is not below 5", Bench.with("a5;a5", "d5(1=1)").tried(1, 3), 0);
        B.due("5 is below 6", Bench.with("a5;a5", "d6(1=1)").tried(1, 3), 2);
        B.due("7 is not below 7", Bench.with("a5;a5", "d7(1=1)").tried(1, 3), 2);
        B.due("7 is below 8", Bench.with("a5;a5", "d8(1=1)").tried(1, 3), 3);
    }

    private static void promise4Refused() {
        String four = Bench.times("a50*", 4, ";");
        litBy("a5;a5", "x(1/k=1)", 2);
        litBy("a5;a5", "x(1%k=0)", 2);
        litBy("a5;a5", "x(!1/k=5)", 2);
        litBy("a5;a5", "x(1=1|1/k=1)", 3);
        litBy("a5;a5", "x(1/k=1|1=1)", 2);
        litBy("a5;a5", "x(1=2&1/k=1|1=1)", 3);
        litBy("a5;a5", "x((1=2&1/k=1)|1=1)", 3);
        litBy("a5;a5", "x((1/k=7|1=1)&1=1|1=1)", 2);
        litBy("a5;a5", "x(1/k=1);x(1=1)", 3);
        litBy("a5;a5", "x(0*[1/k]=0)", 2);
        B.due("an E refused is 0", Bench.with(four, "b9/k+7(1=1);b5(1=1)").tried(1, 10), 50);
        B.due("an E not refused", Bench.with(four, "b9/k+7(1=1);b5(1=1)").tried(1, 11), 34);
        B.due("a C refused does not hold", Bench.with(four, "b9(1/k=1/k);b5(1=1)").tried(1, 10), 45);
        B.due("d refused", Bench.with(four, "d10%k+10(1=1)").tried(1, 3), 14);
    }

    private static void parishFault(String text, int want) {
        PutOffWicks x = Bench.with("a1*;b2;c3", "d10(k=0)");
        x.days(1);
        B.due("parish " + text, Bench.parish(x, text), want);
        B.due("tape behind parish " + text, x.count(6), 0);
        if (want < 0) {
            B.due("things behind parish " + text, x.count(1), 3);
            B.due("done behind parish " + text, x.count(3), 1);
            B.due("length behind parish " + text, x.thingIs(1, 1), 3);
        }
    }

    private static void promise5() {
        parishFault("a5", 1);
        parishFault("p000*<", -1006);
        parishFault("p000*<0", -3006);
        parishFault("p000;p0<00", 2);
        parishFault("a1;b1;c1<2", -3009);
        parishFault("a1;b1;c1<1", 3);
        parishFault("a1;b1;c1<99", -3009);
        parishFault("a1;b1;c1<991", -2011);
        parishFault("a1;b1;c1<2x", -3009);
        parishFault("a1;b1;c1<1x", -1010);
        parishFault("a1**", -1003);
        parishFault("a1<*", -1003);
        parishFault("A1", -1000);
        parishFault("q1", -1000);
        parishFault("`1", -1000);
        parishFault("a*", -1001);
        parishFault("a1;;b1", -1003);
        parishFault("a1 ;b1", -1002);
        parishFault("a1b1", -1002);
        parishFault("a0999", -2004);
        parishFault("1", -1000);
        parishFault(Bench.times("a1", 24, ";"), 24);
        parishFault(Bench.times("a1", 25, ";"), -4072);
        parishFault(Bench.times("a1", 24, ";") + ";", -1072);
        parishFault(Bench.times("a1", 24, ";") + ";1", -1072);
        parishFault(Bench.times("a1", 10, ";") + Bench.times(";a1<10", 2, ""), -3033);
        parishFault(Bench.times("a1", 11, ";") + Bench.times(";a1<10", 2, ""), 13);
        PutOffWicks x = Bench.with("a9*;b20*;c3", "d10(k=0)");
        x.days(3);
        B.due("guttered ahead", x.count(4), 1);
        B.due("a new parish", Bench.parish(x, "c12*<0;"), -3005);
        B.due("a new parish", Bench.parish(x, "c12*;d0*;e999<1"), 3);
        B.due("lit", x.count(2), 1);
        B.due("none done", x.count(3), 0);
        B.due("none guttered", x.count(4), 0);
        B.due("the day stays", x.count(0), 3);
        B.due("days 0", x.thingIs(1, 3), 0);
        B.due("whose", x.thingIs(2, 0), 4);
        x.feed(1, 2, 3, 4, 5);
        B.due("parish 0", x.parish(0), -1);
        B.due("parish 21", x.parish(21), -1);
        B.due("tape stays", x.count(6), 20);
        for (int i = 0; i < 12; i++) {
            x.feed(1, 2, 3, 4, 5);
        }
        B.due("parish 201", x.parish(201), -1);
        B.due("parish 200", x.parish(200), -1000);
        B.due("empty then", x.count(6), 0);
    }

    private static void promise6() {
        PutOffWicks x = Bench.with("a10*;b20;a5*<1;c0");
        B.due("days 0", x.days(0), -1);
        B.due("days 101", x.days(101), -1);
        B.due("none went by", x.count(0), 0);
        B.due("days", x.days(5), 0);
        B.due("burns by 1", x.thingIs(0, 1), 5);
        B.due("grows by 1", x.thingIs(1, 1), 25);
        B.due("burnt out, it grows", x.thingIs(2, 1), 1);
        B.due("and is out", x.thingIs(2, 2), 0);
        B.due("lit still", x.count(2), 1);
        B.due("put off", x.thingIs(3, 3), 5);
        B.due("the day", x.count(0), 5);
        B.due("x", x.count(7), Bench.drawn(1, 40));
        PutOffWicks y = Bench.with("a5;a5<0;a5<1", "d10(1=1)");
        B.due("all in a day, by numbers", y.days(1), 3);
        B.due("two draws each", y.count(7), Bench.drawn(1, 6));
        B.due("done ones have no draws", y.days(4), 0);
        B.due("the same x", y.count(7), Bench.drawn(1, 6));
        B.due("the day goes on", y.count(0), 5);
        B.due("done ones do not grow", y.thingIs(0, 1), 5);
        PutOffWicks z = Bench.with("a5;a5<0;a5<1", "d10(k>0)");
        B.due("who waits is not done", z.days(7), 0);
        B.due("the draw is made always", z.count(7), Bench.drawn(1, 42));
        PutOffWicks g = Bench.with("a5*;b5*;c5", "d10(1=1);b5(k=0);x(k=2)");
        B.due("days", g.days(1), 3);
        B.due("burnt out, it does not gutter; lit by x, it does", g.count(4), 2);
        B.due("length when done", g.thingIs(0, 1), 0);
        B.due("burnt ahead of doing", g.thingIs(1, 1), 4);
        B.due("lit no more", g.count(2), 0);
        PutOffWicks none = new PutOffWicks();
        B.due("days of no things", none.days(100), 0);
        B.due("go by", none.count(0), 100);
    }

    private static void promise6Edges() {
        PutOffWicks x = Bench.with("a995;b0");
        x.days(3);
        B.due("998", x.thingIs(0, 1), 998);
        x.days(2);
        B.due("999 at most", x.thingIs(0, 1), 999);
        Bench.law(x, "x(1=1);b0(1=1)");
        B.due("b of 0 burns nothing", x.tried(5, 10), 999);
        PutOffWicks zero = Bench.with("a0", "x(1=1)");
        B.due("without length x lights nothing", zero.tried(1, 2), 0);
        B.due("but it grows", zero.tried(1, 10), 1);
        B.due("then it is lit, burns out, grows", zero.tried(2, 10), 1);
        B.due("is out again", zero.tried(2, 2), 0);
        for (int i = 0; i < 99; i++) {
            x.days(100);
        }
        B.due("9905", x.count(0), 9905);
        B.due("days put off", x.thingIs(1, 3), 9905);
        x.days(90);
        int before = x.count(7);
        x.seed(before);
        B.due("tried as many as can", x.tried(100, 41), 9999);
        B.due("as many as can", x.days(100), 0);
        B.due("9999 at most", x.count(0), 9999);
        B.due("days 9999", x.thingIs(0, 3), 9999);
        B.due("draws of four days", x.count(7), Bench.drawn(before, 16));
        Bench.law(x, "d10(1=1)");
        B.due("none goes by", x.days(5), 0);
        B.due("nothing done", x.count(3), 0);
        B.due("no draw", x.count(7), Bench.drawn(before, 16));
        B.due("not done by then", x.byWhen(0, 100), -2);
        B.due("not dark by then", x.dark(100), -2);
    }

    private static void promise7() {
        PutOffWicks x = Bench.with("a10*;b20;a5*<1;c0", "d10(k=1|k=2)");
        B.due("n 0", x.tried(0, 0), -1);
        B.due("n 101", x.tried(101, 0), -1);
        B.due("n 100", x.tried(100, 0), 2);
        for (int what : new int[] {-1, 4, 9, 14, 33, 39, 44, 63, 64, 1000, Integer.MIN_VALUE, Integer.MAX_VALUE}) {
            B.due("what " + what, x.tried(1, what), -1);
        }
        B.due("done in them", x.tried(1, 0), 2);
        B.due("guttered then", x.tried(1, 1), 1);
        B.due("lit then", x.tried(1, 2), 1);
        B.due("done then", x.tried(1, 3), 6);
        B.due("length", x.tried(3, 10), 7);
        B.due("length of a done one", x.tried(3, 12), 4);
        B.due("grown", x.tried(3, 13), 3);
        B.due("days", x.tried(3, 43), 3);
        B.due("days of a done one", x.tried(3, 41), 0);
        B.due("nothing changes", x.count(0) + x.count(3) + x.count(4), 0);
        B.due("nor x", x.count(7), 1);
        B.due("nor lit", x.count(2), 5);
        x.days(1);
        B.due("none more is done", x.tried(1, 0), 0);
        B.due("guttered in all", x.tried(1, 1), 1);
        PutOffWicks all = Bench.with(Bench.times("a1", 24, ";"));
        B.due("what 33", all.tried(1, 33), 2);
        B.due("what 34", all.tried(1, 34), -1);
        B.due("what 63", all.tried(2, 63), 2);
        B.due("what 64", all.tried(1, 64), -1);
    }

    private static void promise8() {
        PutOffWicks x = Bench.with("c10*;b20<0", "d10(k=0)");
        x.days(2);
        int[] first = {2, 9, 0, 0, 1, -2};
        int[] second = {1, 22, 0, 2, 0, 0};
        for (int what = 0; what < 6; what++) {
            B.due("thing 0 is " + what, x.thingIs(0, what), first[what]);
            B.due("thing 1 is " + what, x.thingIs(1, what), second[what]);
        }
        B.due("thing 2", x.thingIs(2, 0), -1);
        B.due("thing -1", x.thingIs(-1, 0), -1);
        B.due("what 6", x.thingIs(0, 6), -1);
        B.due("what -1", x.thingIs(0, -1), -1);
    }

    private static void promise9() {
        PutOffWicks x = Bench.with("a5;b5<0;c5", "d10(k=1);d10(k=0&t>2);d10(k=2&n=5)");
        B.due("k 3", x.byWhen(3, 5), -1);
        B.due("k -1", x.byWhen(-1, 5), -1);
        B.due("n 0", x.byWhen(0, 0), -1);
        B.due("n 101", x.byWhen(0, 101), -1);
        B.due("0", x.byWhen(0, 9), 4);
        B.due("1 waits", x.byWhen(1, 9), 4);
        B.due("2", x.byWhen(2, 100), 6);
        B.due("2 in 6", x.byWhen(2, 6), 6);
        B.due("2 in 5", x.byWhen(2, 5), -2);
        B.due("nothing changes", x.count(0) + x.count(3), 0);
        x.days(5);
        B.due("it is", x.byWhen(1, 1), 0);
        B.due("1 more", x.byWhen(2, 1), 1);
    }

    private static void promise10() {
        PutOffWicks x = Bench.with("a3*;b7*;c0", "b2(k=1)");
        B.due("n 0", x.dark(0), -1);
        B.due("n 101", x.dark(101), -1);
        B.due("dark", x.dark(100), 4);
        B.due("in 4", x.dark(4), 4);
        B.due("in 3", x.dark(3), -2);
        x.lit(1, false);
        B.due("only the other", x.dark(9), 3);
        x.lit(0, false);
        B.due("it is", x.dark(1), 0);
        B.due("lit ever again", Bench.with("a5*", "x(1=1);b0(1=1)").dark(100), -2);
        B.due("by doing", Bench.with("a5*", "d10(t=1)").dark(100), 2);
        B.due("nothing changes", x.count(0), 0);
    }

    private static void promise11() {
        PutOffWicks x = Bench.with("c1;b1;b1;c1;a1", "d10(k=4&t=3);d10(k=0&t=1);d10(k=3&t=4);d10(t=6)");
        B.due("what 2", x.pride(2), -1);
        B.due("what -1", x.pride(-1), -1);
        B.due("of like ones the lowest: none put off", x.pride(0), 0);
        B.due("none", x.pride(1), 0);
        x.days(1);
        B.due("b and c like, the lowest", x.pride(0), 1);
        B.due("two", x.pride(1), 2);
        x.days(5);
        B.due("b", x.pride(0), 1);
        B.due("two of six", x.pride(1), 12);
        x.days(1);
        B.due("nothing left", x.pride(0), -2);
        B.due("0 then", x.pride(1), 0);
    }

    private static void promise12() {
        PutOffWicks x = Bench.with("c1;b1;b1", "d10(k=0&t=2)");
        B.due("the lowest", x.oldest(), 0);
        x.days(2);
        B.due("the lowest of like ones", x.oldest(), 0);
        x.days(1);
        B.due("not done", x.oldest(), 1);
        Bench.law(x, "d10(1=1)");
        x.days(1);
        B.due("nothing left", x.oldest(), -2);
        PutOffWicks y = Bench.with("a1;a1");
        y.keep();
        Bench.parish(y, "a1;a1;a1");
        y.days(3);
        y.undo();
        B.due("the longest is not the first", y.oldest(), 2);
    }

    private static void promise13() {
        PutOffWicks x = Bench.with("a1;a1<0;a1<1;a1;a1<3;a1<2", "d10(k=0)");
        int[] want = {1, 2, 3, 1, 2, 4};
        for (int k = 0; k < 6; k++) {
            B.due("chain " + k, x.chain(k), want[k]);
        }
        x.days(1);
        B.due("done ones count", x.chain(5), 4);
        B.due("chain 6", x.chain(6), -1);
        B.due("chain -1", x.chain(-1), -1);
        StringBuilder all = new StringBuilder("a1");
        for (int k = 1; k < 24; k++) {
            all.append(";a1<").append(k - 1);
        }
        B.due("of all", Bench.with(all.toString()).chain(23), 24);
    }

    private static void promise14() {
        B.due("none", new PutOffWicks().orders(), 1);
        B.due("12 free", Bench.with(Bench.times("a1", 12, ";")).orders(), 479001600);
        B.due("13", Bench.with(Bench.times("a1", 13, ";")).orders(), -4);
        B.due("one behind the other", Bench.with("a1;a1<0;a1<1;a1<2").orders(), 1);
        B.due("three behind one", Bench.with("a1;a1<0;a1<0;a1<0").orders(), 6);
        B.due("two twos", Bench.with("a1;a1<0;a1;a1<2").orders(), 6);
        PutOffWicks x = Bench.with("a1;a1<0;a1<0;a1<1", "d10(k=0)");
        x.days(1);
        B.due("those done stand ahead", x.orders(), 3);
        PutOffWicks thirteen = Bench.with(Bench.times("a1", 13, ";"), "d10(k=5)");
        thirteen.days(1);
        B.due("12 of 13", thirteen.orders(), 479001600);
        PutOffWicks odd = Bench.with("a1;a1;a1", "d10(k=1)");
        odd.days(1);
        odd.keep();
        Bench.parish(odd, "a1;a1<0;a1<1");
        B.due("three in a row", odd.orders(), 1);
        odd.undo();
        B.due("the middle one is done: two free ones", odd.orders(), 2);
    }

    private static void promise15() {
        PutOffWicks x = Bench.with("a10*;b20*;a5*;p7*;c9");
        B.due("a", x.light(0), 15);
        B.due("b", x.light(1), 20);
        B.due("c", x.light(2), 0);
        B.due("p", x.light(15), 7);
        B.due("all", x.light(16), 42);
        B.due("17", x.light(17), -1);
        B.due("-1", x.light(-1), -1);
    }

    private static void promise16() {
        PutOffWicks x = Bench.with("b10*;a20*;b10*;p99");
        B.due("of like ones the lowest", x.worstNews(0), 0);
        B.due("how much", x.worstNews(1), 20);
        x.lit(3, true);
        B.due("p", x.worstNews(0), 15);
        B.due("99", x.worstNews(1), 99);
        B.due("what 2", x.worstNews(2), -1);
        B.due("what -1", x.worstNews(-1), -1);
        for (int k = 0; k < 4; k++) {
            x.lit(k, false);
        }
        B.due("nothing lit", x.worstNews(0), -2);
        B.due("0 then", x.worstNews(1), 0);
    }

    private static void promise17() {
        PutOffWicks x = Bench.with("a1;a1", "d10(k=0&t=6)");
        x.days(2);
        x.keep();
        Bench.parish(x, "a1;a1;a1;a1");
        x.days(3);
        x.undo();
        // 2 2 3 3
        B.due("of two the lower", x.median(), 2);
        x.days(1);
        B.due("one day on", x.median(), 3);
        x.days(4);
        // done with 6, then 7 8 8
        B.due("of three", x.median(), 8);
        Bench.law(x, "d10(1=1)");
        x.days(1);
        B.due("nothing left", x.median(), -2);
    }

    private static void twistFault(int strands, String text, int want) {
        PutOffWicks x = new PutOffWicks();
        B.due("twist " + strands + " " + text, Bench.twist(x, strands, text, 100), want);
        B.due("tape behind twist " + text, x.count(6), 0);
    }

    private static void promise18Faults() {
        twistFault(8, "abcdefgABCDEFG", 14);
        twistFault(8, "H", -1000);
        twistFault(8, "1a", -1000);
        twistFault(8, "0a", -1000);
        twistFault(8, "22a", -1001);
        twistFault(8, "a2", -1002);
        twistFault(8, "a2)", -1002);
        twistFault(8, "(a2)", -1003);
        twistFault(8, "(2)", -1002);
        twistFault(8, ")", -1000);
        twistFault(8, "(a))", -1003);
        twistFault(8, "(a(b)", -1005);
        twistFault(8, "a(", -1002);
        twistFault(8, "2(2(a))", 4);
        twistFault(8, "2(2(2(a)))", -5005);
        twistFault(8, "((a)(b)(c))", 3);
        twistFault(8, "(a)((b)((", -5008);
        twistFault(4, "c", 1);
        twistFault(4, "d", -3000);
        twistFault(4, "2D", -3001);
        twistFault(4, "8(8a)", 64);
        twistFault(4, "8(8a)a", -6005);
        twistFault(4, "8(8a)2a", -6005);
        twistFault(4, "8(8a)d", -3005);
        twistFault(4, "9(8a)d", -6000);
        twistFault(4, "2(9(8a))d", -6002);
        twistFault(4, "2(5(8a))d", -6000);
        twistFault(4, Bench.times("a", 64, ""), 64);
        twistFault(4, Bench.times("a", 65, ""), -6064);
        twistFault(4, "7(9a)(a)", 64);
        twistFault(4, "8(8a)(a)", -6006);
        twistFault(4, "7(9a)2(a)", -6005);
        twistFault(4, "7(9a)(2a)", -6006);
        PutOffWicks x = new PutOffWicks();
        x.feed(0x61616161, 0x61616161, 0x61616161, 0x61616161, 0x61616161);
        B.due("1 strand", x.twist(1, 1, 100), -1);
        B.due("9 strands", x.twist(9, 1, 100), -1);
        B.due("n 0", x.twist(2, 0, 100), -1);
        B.due("n 21", x.twist(2, 21, 100), -1);
        B.due("what -1", x.twist(2, 1, -1), -1);
        B.due("what 2 of 2 strands", x.twist(2, 1, 2), -1);
        B.due("what 99", x.twist(2, 1, 99), -1);
        B.due("what 104", x.twist(2, 1, 104), -1);
        B.due("tape stays", x.count(6), 20);
        for (int i = 0; i < 4; i++) {
            x.feed(0, 0, 0, 0, 0);
        }
        B.due("n 81", x.twist(2, 81, 100), -1);
        B.due("n 80", x.twist(2, 80, 100), -1020);
    }

    private static void promise18() {
        PutOffWicks x = new PutOffWicks();
        B.due("overs less unders", Bench.twist(x, 4, "3(aB)2C", 101), -2);
        B.due("short", Bench.twist(x, 4, "abcCBA", 102), 0);
        B.due("short all through", Bench.twist(x, 4, "2(aA)3b3B", 102), 0);
        B.due("another place between", Bench.twist(x, 4, "acA", 102), 3);
        B.due("under, then over", Bench.twist(x, 4, "Aa", 102), 0);
        B.due("left ones", Bench.twist(x, 4, "9a5A", 102), 4);
        B.due("five and three", Bench.twist(x, 8, "abcdfg", 103), 15);
        B.due("under is a turn, too", Bench.twist(x, 8, "ABCDEFG", 103), 8);
        B.due("once at least", Bench.twist(x, 8, "aA", 103), 1);
        B.due("two", Bench.twist(x, 2, "a", 103), 2);
        B.due("comes out", Bench.twist(x, 8, "abcdefg", 0), 7);
        B.due("the others go back", Bench.twist(x, 8, "abcdefg", 7), 6);
        B.due("where none turns", Bench.twist(x, 8, "abdefg", 2), 1);
        B.due("turns", Bench.twist(x, 8, "2(a3(bc))", 100), 14);
    }

    private static int waiting(int what, int... twos) {
        PutOffWicks x = new PutOffWicks();
        Bench.feed(x, twos);
        int got = x.waiting(twos.length / 2, what);
        B.due("tape behind waiting", x.count(6), 0);
        return got;
    }

    private static void promise19() {
        B.due("a ring and who waits for it", waiting(0, 1, 2, 2, 1, 3, 1, 4, 3, 1, 5, 6, 7), 2 + 4 + 8 + 16);
        B.due("a ring of all but 15", waiting(0, 0, 1, 1, 0, 15, 14), 3);
        B.due("no ring", waiting(1, 0, 1, 1, 2, 0, 2), 0);
        B.due("one for two rings", waiting(1, 0, 1, 1, 2, 2, 0, 2, 3, 3, 0), 1);
        B.due("two rings at one", waiting(1, 0, 1, 1, 0, 0, 2, 2, 0), 2);
        B.due("told twice", waiting(1, 0, 1, 1, 0, 1, 0, 0, 1), 1);
        int[] all = new int[40];
        int at = 0;
        for (int a = 0; a < 5; a++) {
            for (int b = 0; b < 5; b++) {
                if (a != b) {
                    all[at++] = a;
                    all[at++] = b;
                }
            }
        }
        B.due("all for all", waiting(1, all), 10);
        B.due("all for all, for ever", waiting(0, all), 31);
        B.due("15", waiting(0, 15, 0, 0, 15), 1 << 15 | 1);
        int[] ring = new int[32];
        for (int who = 0; who < 16; who++) {
            ring[2 * who] = who;
            ring[2 * who + 1] = (who + 1) % 16;
        }
        B.due("a ring of all", waiting(0, ring), 65535);
        B.due("one ends", waiting(1, ring), 1);
        int[] row = java.util.Arrays.copyOf(ring, 30);
        B.due("a row of all", waiting(0, row), 0);
        B.due("none must end", waiting(1, row), 0);
        B.due("above 15", waiting(0, 0, 1, 0, 16), -3);
        B.due("above 15", waiting(1, 255, 1), -3);
        B.due("himself", waiting(1, 0, 1, 7, 7), -3);
        PutOffWicks x = new PutOffWicks();
        x.feed(0, 0, 0, 0, 0);
        B.due("n 0", x.waiting(0, 0), -1);
        B.due("n 21", x.waiting(21, 0), -1);
        B.due("n 11", x.waiting(11, 0), -1);
        B.due("what 2", x.waiting(1, 2), -1);
        B.due("what -1", x.waiting(1, -1), -1);
        B.due("great n", x.waiting(Integer.MAX_VALUE, 0), -1);
        B.due("n of half the ints", x.waiting(1 << 31, 0), -1);
        B.due("tape stays", x.count(6), 20);
        for (int i = 0; i < 4; i++) {
            x.feed(0x00010203, 0x00010203, 0x00010203, 0x00010203, 0x00010203);
        }
        B.due("n 21 of enough", x.waiting(21, 0), -1);
        B.due("n 20 of enough", x.waiting(20, 0), -3);
    }

    private static int spun(int what, int... hours) {
        PutOffWicks x = new PutOffWicks();
        Bench.feed(x, hours);
        int got = x.spun(hours.length / 2, what);
        B.due("tape behind spun", x.count(6), 0);
        return got;
    }

    private static void promise20() {
        B.due("one", spun(0, 3, 4), 7);
        B.due("one first", spun(1, 3, 4), 0);
        B.due("two", spun(0, 3, 2, 1, 4), 7);
        B.due("two first", spun(1, 3, 2, 1, 4), 1);
        // the rows 0 1 and 1 0 both take 12
        B.due("of like rows the least", spun(1, 5, 3, 4, 3), 0);
        B.due("five things", spun(0, 4, 5, 4, 1, 30, 4, 6, 30, 2, 3), 47);
        B.due("five things first", spun(1, 4, 5, 4, 1, 30, 4, 6, 30, 2, 3), 0);
        int[] most = new int[16];
        java.util.Arrays.fill(most, 255);
        B.due("eight of 255", spun(0, most), 9 * 255);
        PutOffWicks x = new PutOffWicks();
        x.feed(0, 0, 0, 0, 0);
        B.due("n 0", x.spun(0, 0), -1);
        B.due("n 9", x.spun(9, 0), -1);
        B.due("what 2", x.spun(1, 2), -1);
        B.due("what -1", x.spun(1, -1), -1);
        B.due("tape stays", x.count(6), 20);
        x.halves(2, 0);
        B.due("not so many", x.spun(1, 0), -1);
    }

    private static int night(int hour, int... hours) {
        PutOffWicks x = new PutOffWicks();
        Bench.feed(x, hours);
        int got = x.night(hours.length / 2, hour);
        B.due("tape behind night", x.count(6), 0);
        return got;
    }

    private static void promise21() {
        B.due("one", night(5, 0, 5), 1);
        B.due("beyond", night(5, 0, 255), 1);
        B.due("an hour short", night(6, 0, 5), -2);
        B.due("two that meet", night(9, 0, 5, 5, 9), 2);
        B.due("a gap", night(9, 0, 5, 6, 9), -2);
        B.due("dark at first", night(9, 1, 9), -2);
        B.due("the fewest", night(10, 0, 3, 0, 4, 3, 8, 4, 6, 6, 10, 8, 10), 3);
        B.due("to 255", night(255, 0, 100, 100, 200, 90, 255), 2);
        B.due("to not behind from", night(5, 0, 5, 7, 7), -3);
        B.due("to ahead of from", night(5, 0, 3, 7, 6), -3);
        PutOffWicks x = new PutOffWicks();
        x.feed(0, 0, 0, 0, 0);
        B.due("n 0", x.night(0, 5), -1);
        B.due("n 17", x.night(17, 5), -1);
        B.due("n 11", x.night(11, 5), -1);
        B.due("hour 0", x.night(1, 0), -1);
        B.due("hour 256", x.night(1, 256), -1);
        B.due("tape stays", x.count(6), 20);
    }

    private static int putsOff(int tenths, boolean knows, int what, int... costs) {
        PutOffWicks x = new PutOffWicks();
        Bench.feed(x, costs);
        int got = x.putsOff(costs.length, tenths, knows, what);
        B.due("tape behind putsOff", x.count(6), 0);
        return got;
    }

    private static void promise22() {
        B.due("does not know", putsOff(5, false, 0, 3, 5, 8, 13), 3);
        B.due("knows", putsOff(5, true, 0, 3, 5, 8, 13), 1);
        B.due("knows, costs", putsOff(5, true, 1, 3, 5, 8, 13), 5);
        B.due("exactly the tenths", putsOff(5, false, 0, 4, 8), 0);
        B.due("a bit more", putsOff(5, false, 0, 5, 9), 1);
        B.due("the least of the later ones", putsOff(10, false, 0, 5, 9, 4), 2);
        B.due("not the next alone", putsOff(10, true, 0, 5, 9, 4), 2);
        B.due("he looks at the day he would do it", putsOff(10, true, 0, 5, 5, 4, 9), 2);
        B.due("knows, first like", putsOff(10, true, 0, 4, 5, 4, 9), 0);
        B.due("one day", putsOff(1, true, 1, 200), 200);
        B.due("all for nothing", putsOff(1, false, 0, 0, 0), 0);
        PutOffWicks x = new PutOffWicks();
        x.feed(0, 0, 0, 0, 0);
        B.due("n 0", x.putsOff(0, 5, true, 0), -1);
        B.due("n 17", x.putsOff(17, 5, true, 0), -1);
        B.due("tenths 0", x.putsOff(1, 0, true, 0), -1);
        B.due("tenths 11", x.putsOff(1, 11, true, 0), -1);
        B.due("what 2", x.putsOff(1, 5, true, 2), -1);
        B.due("what -1", x.putsOff(1, 5, true, -1), -1);
        B.due("tape stays", x.count(6), 20);
        x.halves(2, 0);
        B.due("not so many", x.putsOff(1, 5, true, 0), -1);
    }

    private static int cord(int many, int... lengths) {
        PutOffWicks x = new PutOffWicks();
        Bench.feed(x, lengths);
        int got = x.cord(lengths.length, many);
        B.due("tape behind cord", x.count(6), 0);
        return got;
    }

    private static void promise23() {
        B.due("of one", cord(1, 5, 4, 3), 12);
        B.due("of two", cord(2, 5, 4, 3), 6);
        B.due("a long one is of no use", cord(2, 200, 4, 3), 7);
        B.due("as many as there are", cord(3, 5, 4, 3), 3);
        B.due("more than there are", cord(4, 5, 4, 3), 0);
        B.due("whole numbers", cord(2, 3, 3, 3), 4);
        B.due("no length", cord(1, 0, 0), 0);
        int[] most = new int[12];
        java.util.Arrays.fill(most, 255);
        B.due("the longest of all", cord(1, most), 3060);
        B.due("twelve of eight", cord(8, most), 382);
        B.due("2048", cord(1, 255, 255, 255, 255, 255, 255, 255, 255, 8), 2048);
        B.due("2047", cord(1, 255, 255, 255, 255, 255, 255, 255, 255, 7), 2047);
        PutOffWicks x = new PutOffWicks();
        x.feed(0, 0, 0, 0, 0);
        B.due("n 1", x.cord(1, 1), -1);
        B.due("n 13", x.cord(13, 1), -1);
        B.due("many 0", x.cord(2, 0), -1);
        B.due("many 9", x.cord(2, 9), -1);
        B.due("tape stays", x.count(6), 20);
        x.halves(2, 0);
        B.due("not so many", x.cord(2, 1), -1);
    }

    private static int seen(int many, int what, int... lights) {
        PutOffWicks x = new PutOffWicks();
        Bench.feed(x, lights);
        int got = x.seen(lights.length / 2, many, what);
        B.due("tape behind seen", x.count(6), 0);
        return got;
    }

    private static void promise24() {
        B.due("places", seen(1, 0, 10, 2, 20, 3), 12);
        B.due("row", seen(1, 1, 10, 2, 20, 3), 7);
        B.due("row of two that meet", seen(1, 1, 10, 2, 16, 3), 12);
        B.due("two", seen(2, 0, 10, 5, 16, 3), 3);
        B.due("at the shore's ends", seen(1, 0, 0, 3, 255, 4), 9);
        B.due("not round", seen(1, 1, 0, 3, 255, 4), 5);
        B.due("its own place", seen(1, 0, 7, 0), 1);
        B.due("none", seen(2, 1, 7, 0), 0);
        B.due("more than there are", seen(12, 0, 7, 255, 8, 255), 0);
        PutOffWicks x = new PutOffWicks();
        x.feed(0, 0, 0, 0, 0);
        B.due("n 0", x.seen(0, 1, 0), -1);
        B.due("n 13", x.seen(13, 1, 0), -1);
        B.due("n 11", x.seen(11, 1, 0), -1);
        B.due("many 0", x.seen(1, 0, 0), -1);
        B.due("many 13", x.seen(1, 13, 0), -1);
        B.due("what 2", x.seen(1, 1, 2), -1);
        B.due("what -1", x.seen(1, 1, -1), -1);
        B.due("tape stays", x.count(6), 20);
    }

    private static int brightest(int many, int what, int... lights) {
        PutOffWicks x = new PutOffWicks();
        Bench.feed(x, lights);
        int got = x.brightest(lights.length / 2, many, what);
        B.due("tape behind brightest", x.count(6), 0);
        return got;
    }

    private static void promise25() {
        int[] three = {10, 2, 20, 3, 11, 2};
        B.due("one", brightest(1, 0, three), 7);
        B.due("which", brightest(1, 1, three), 2);
        B.due("two", brightest(2, 0, three), 12);
        B.due("least bits", brightest(2, 1, three), 3);
        B.due("three", brightest(3, 0, three), 13);
        B.due("all", brightest(3, 1, three), 7);
        B.due("not the two that are seen farthest", brightest(2, 1, 100, 20, 101, 19, 200, 5), 5);
        B.due("beyond the shore", brightest(1, 1, 0, 9, 100, 5), 2);
        B.due("like ones", brightest(1, 1, 50, 5, 100, 5), 1);
        PutOffWicks x = new PutOffWicks();
        x.feed(0, 0, 0, 0, 0);
        B.due("n 0", x.brightest(0, 0, 0), -1);
        B.due("n 13", x.brightest(13, 1, 0), -1);
        B.due("n 11", x.brightest(11, 1, 0), -1);
        B.due("many 0", x.brightest(2, 0, 0), -1);
        B.due("many 3", x.brightest(2, 3, 0), -1);
        B.due("what 2", x.brightest(1, 1, 2), -1);
        B.due("what -1", x.brightest(1, 1, -1), -1);
        B.due("tape stays", x.count(6), 20);
    }

    private static int halves(int what, int... lights) {
        PutOffWicks x = new PutOffWicks();
        Bench.feed(x, lights);
        int got = x.halves(lights.length, what);
        B.due("tape behind halves", x.count(6), 0);
        return got;
    }

    private static void promise26() {
        B.due("two", halves(0, 1, 9), 1);
        B.due("differ", halves(1, 1, 9), 8);
        B.due("the last", halves(0, 1, 1, 1, 4), 3);
        B.due("by one", halves(1, 1, 1, 1, 4), 1);
        B.due("of like ones the fewest", halves(0, 1, 0, 0, 1), 1);
        B.due("one each side at least", halves(0, 0, 0, 9), 1);
        PutOffWicks x = new PutOffWicks();
        x.feed(0, 0, 0, 0, 0);
        B.due("n 1", x.halves(1, 0), -1);
        B.due("n 17", x.halves(17, 0), -1);
        B.due("what 2", x.halves(2, 2), -1);
        B.due("what -1", x.halves(2, -1), -1);
        B.due("tape stays", x.count(6), 20);
        x.halves(2, 0);
        B.due("not so many", x.halves(2, 0), -1);
    }

    private static int forgiven(int... twos) {
        PutOffWicks x = new PutOffWicks();
        Bench.feed(x, twos);
        int got = x.forgiven(twos.length / 2);
        B.due("tape behind forgiven", x.count(6), 0);
        return got;
    }

    private static void promise27() {
        B.due("one", forgiven(9, 0), 1);
        B.due("like ones", forgiven(1, 1, 1, 1), 2);
        B.due("costs more", forgiven(1, 1, 2, 1), 1);
        B.due("is worth less", forgiven(1, 2, 1, 1), 1);
        B.due("both", forgiven(1, 1, 2, 2, 3, 3), 3);
        B.due("bytes above 127", forgiven(200, 100, 100, 200), 1);
        PutOffWicks x = new PutOffWicks();
        x.feed(0, 0, 0, 0, 0);
        B.due("n 0", x.forgiven(0), -1);
        B.due("n 17", x.forgiven(17), -1);
        B.due("n 11", x.forgiven(11), -1);
        B.due("tape stays", x.count(6), 20);
    }

    private static void promise28() {
        PutOffWicks x = Bench.with("a5");
        B.due("-1", x.seed(-1), false);
        B.due("65536", x.seed(65536), false);
        B.due("stays", x.count(7), 1);
        B.due("65535", x.seed(65535), true);
        B.due("x", x.count(7), 65535);
        x.days(1);
        B.due("drawn on", x.count(7), Bench.drawn(65535, 2));
        B.due("0", x.seed(0), true);
        x.days(1);
        B.due("drawn on from 0", x.count(7), Bench.drawn(0, 2));
    }

    private static void promise29And30() {
        PutOffWicks x = Bench.with("a10*;b20;c0", "d10(k=0&t=2)");
        B.due("none kept", x.undo(), false);
        x.days(2);
        B.due("keep", x.keep(), 2);
        x.days(4);
        x.lit(1, true);
        B.due("guttered", x.count(4), 1);
        B.due("undo", x.undo(), true);
        B.due("day", x.count(0), 2);
        B.due("lit", x.count(2), 1);
        B.due("done", x.count(3), 0);
        B.due("guttered back", x.count(4), 0);
        B.due("x back", x.count(7), Bench.drawn(1, 12));
        B.due("length back", x.thingIs(1, 1), 22);
        B.due("days back", x.thingIs(1, 3), 2);
        Bench.law(x, "x(1=2)");
        Bench.parish(x, "p7*;o8*<0;n9*<1;m6*<2");
        x.days(3);
        B.due("undo over another parish", x.undo(), true);
        B.due("as many as there are now", x.count(1), 4);
        B.due("whose stays", x.thingIs(0, 0), 15);
        B.due("waiting stays", x.thingIs(2, 5), 1);
        B.due("length", x.thingIs(0, 1), 8);
        B.due("lit", x.count(2), 1 + 8);
        B.due("beyond stays", x.thingIs(3, 1), 3);
        B.due("days beyond stay", x.thingIs(3, 3), 3);
        B.due("the law stays", x.count(5), 1);
        Bench.parish(x, "a1");
        B.due("undo over fewer", x.undo(), true);
        B.due("one", x.count(1), 1);
        B.due("lit of one", x.count(2), 1);
        B.due("length of one", x.thingIs(0, 1), 8);
        x.days(5);
        B.due("keep again", x.keep(), 7);
        x.days(5);
        x.undo();
        B.due("the last kept", x.count(0), 7);
        PutOffWicks none = new PutOffWicks();
        none.keep();
        Bench.parish(none, "a5*");
        none.days(2);
        none.undo();
        B.due("kept without things", none.thingIs(0, 1), 3);
        B.due("its day", none.count(0), 0);
    }

    private static int check(PutOffWicks x, int... bytes) {
        return x.check(Bench.feed(x, bytes));
    }

    private static void promise31() {
        PutOffWicks x = Bench.with("a7;b256;c999");
        B.due("right", check(x, 7, 0, 231), -1);
        B.due("beyond them 0", check(x, 7, 0, 231, 0, 0), -1);
        B.due("beyond them not 0", check(x, 7, 0, 231, 0, 1), 4);
        B.due("fewer", check(x, 7), -1);
        B.due("the first", check(x, 8, 1, 231), 0);
        B.due("the last", check(x, 7, 0, 232), 2);
        int[] all = new int[24];
        all[0] = 7;
        all[2] = 231;
        B.due("24", check(x, all), -1);
        x.feed(0, 0, 0, 0, 0);
        B.due("none asked", x.check(0), -1);
        B.due("empty then", x.count(6), 0);
        B.due("none of none", x.check(0), -1);
        B.due("not so many", x.check(1), -2);
        x.feed(0, 0, 0, 0, 0);
        B.due("21 of 20", x.check(21), -2);
        B.due("-1", x.check(-1), -2);
        x.feed(0, 0, 0, 0, 0);
        B.due("25", x.check(25), -2);
        B.due("tape stays", x.count(6), 40);
    }

    private static void promise32() {
        PutOffWicks x = Bench.with("a10*;p20*;p5*;c9", "d10(k=1);d10(k=3);d0(1=1)");
        x.days(2);
        x.feed(0, 0, 0, 0, 0);
        int[] want = {2, 4, 5, 10, 1, 3, 20, Bench.drawn(1, 12), 1 | 1 << 15};
        for (int what = 0; what < want.length; what++) {
            B.due("count(" + what + ")", x.count(what), want[what]);
        }
        B.due("count(9)", x.count(9), -1);
        B.due("count(-1)", x.count(-1), -1);
    }
}
