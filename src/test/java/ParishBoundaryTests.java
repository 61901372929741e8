/** Each sentence on A PARISH that names a boundary has a test of its own (Terms, promise 5). */
public final class ParishBoundaryTests {
    private static final Bench B = new Bench();

    public static void main(String[] args) {
        atMost200Bytes();
        noBlanks();
        noneAtFirst();
        semicolonBetweenTwo();
        linesAtMost24();
        letters();
        oneToThreeDigits();
        star();
        litWithoutLength();
        oneOrTwoDigits();
        whatCanNotStandThere();
        theEndToo();
        aDigitTooMany();
        noLower();
        askedWhenItEnds();
        a25thLine();
        a25thLineThatCanNotStandThere();
        theFirstFromTheLeft();
        inPlaceOfAllAhead();
        theDayStays();
        aFaultAllStays();
        emptyThen();
        noSuchN();
        notSoMany();
        B.end();
    }

    private static void due(String text, int want) {
        B.due("parish " + text, Bench.parish(new PutOffWicks(), text), want);
    }

    /** The one line of a parish: what is to be seen of its thing. */
    private static int only(String text, int what) {
        return Bench.with(text).thingIs(0, what);
    }

    private static String longest() {
        return "a999*;" + Bench.times("a999*<00", 21, ";") + ";a1;a1";
    }

    private static void atMost200Bytes() {
        B.of("A PARISH: a TEXT of at most 200 bytes");
        PutOffWicks x = new PutOffWicks();
        B.due("the longest text", longest().length(), 200);
        Bench.feed(x, longest());
        B.due("parish(200)", x.parish(200), 24);
        Bench.feed(x, longest() + "<0");
        B.due("parish(201)", x.parish(201), -1);
        B.due("parish(202)", x.parish(202), -1);
        B.due("the tape stays", x.count(6), 220);
        B.due("one byte", Bench.parish(x, "a"), -1001);
    }

    private static void noBlanks() {
        B.of("A PARISH: no blanks");
        String text = "a1;b23*<0;c4";
        for (char blank : new char[] {' ', '\t', '\n', '\r', 0, 160}) {
            for (int i = 0; i <= text.length(); i++) {
                due(text.substring(0, i) + blank + text.substring(i), -1000 - i);
            }
        }
    }

    private static void noneAtFirst() {
        B.of("A PARISH: none at first");
        PutOffWicks x = new PutOffWicks();
        B.due("count(1)", x.count(1), 0);
        B.due("thingIs(0, 0)", x.thingIs(0, 0), -1);
        B.due("lit(0, false)", x.lit(0, false), false);
    }

    private static void semicolonBetweenTwo() {
        B.of("LINES with a ; (59) between two");
        due("a1;b1", 2);
        due(";a1", -1000);
        due("a1;", -1003);
        due("a1;;b1", -1003);
        due("a1b1", -1002);
        due("a1:b1", -1002);
        due("a1,b1", -1002);
    }

    private static void linesAtMost24() {
        B.of("LINES: 24 at most; THINGS by their order");
        StringBuilder text = new StringBuilder("a101");
        for (int k = 1; k < 24; k++) {
            text.append(';').append((char) ('a' + k % 16)).append(101 + k);
        }
        PutOffWicks x = Bench.with(text.toString());
        B.due("count(1)", x.count(1), 24);
        for (int k = 0; k < 24; k++) {
            B.due("whose is " + k, x.thingIs(k, 0), k % 16);
            B.due("length of " + k, x.thingIs(k, 1), 101 + k);
        }
        B.due("thing 24", x.thingIs(24, 1), -1);
    }

    private static void letters() {
        B.of("PEOPLE a to p (0 to 15); a letter a to p");
        for (int sign = 0; sign < 256; sign++) {
            boolean stands = sign >= 'a' && sign <= 'p';
            due((char) sign + "1", stands ? 1 : -1000);
        }
        B.due("a", only("a1", 0), 0);
        B.due("p", only("p1", 0), 15);
    }

    private static void oneToThreeDigits() {
        B.of("a number of one to three digits (LENGTH); a LENGTH (0 to 999)");
        B.due("0", only("a0", 1), 0);
        B.due("00", only("a00", 1), 0);
        B.due("000", only("a000", 1), 0);
        B.due("007", only("a007", 1), 7);
        B.due("9", only("a9", 1), 9);
        B.due("99", only("a99", 1), 99);
        B.due("999", only("a999", 1), 999);
        due("a*", -1001);
        due("a;", -1001);
        due("a/", -1001);
        due("a:", -1001);
        due("a1/", -1002);
        due("a1:", -1002);
    }

    private static void star() {
        B.of("then perhaps * (42, LIT)");
        B.due("without", only("a1", 2), 0);
        B.due("with", only("a1*", 2), 1);
        B.due("999", only("a999*", 2), 1);
        due("a1**", -1003);
        due("a1)", -1002);
        due("a1+", -1002);
        due("a1<0*", -3003);
    }

    private static void litWithoutLength() {
        B.of("of LENGTH 0 it is not LIT all the same");
        for (String zero : new String[] {"a0*", "a00*", "a000*"}) {
            B.due(zero, Bench.parish(new PutOffWicks(), zero), 1);
            B.due(zero + " is lit", only(zero, 2), 0);
        }
        PutOffWicks x = Bench.with("a5*;b0*<0;c1*");
        B.due("count(2)", x.count(2), 5);
        B.due("it waits all the same", x.thingIs(1, 5), 0);
    }

    private static void oneOrTwoDigits() {
        B.of("then perhaps < (60) and a number of one or two digits");
        B.due("0", Bench.with("a1;b1<0").thingIs(1, 5), 0);
        B.due("00", Bench.with("a1;b1<00").thingIs(1, 5), 0);
        B.due("10", Bench.with(Bench.times("a1", 11, ";") + ";a1<10").thingIs(11, 5), 10);
        B.due("09", Bench.with(Bench.times("a1", 11, ";") + ";a1<09").thingIs(11, 5), 9);
        B.due("none", only("a1", 5), -2);
        due("a1;b1<", -1006);
        due("a1;b1<;", -1006);
        due("a1;b1<a", -1006);
        due("a1;b1<*", -1006);
        due("a1;b1<0<0", -1007);
        due("a1;b1<0*", -1007);
        due("a1;b1=0", -1005);
        due("a1;b1;0", -1006);
    }

    private static void whatCanNotStandThere() {
        B.of("FAULTS: 1 what can't stand there");
        String text = "a1;b23*<0;c456;d7<1";
        for (char sign : new char[] {'q', 'A', '#', '!', '(', 255, 128}) {
            for (int i = 0; i < text.length(); i++) {
                due(text.substring(0, i) + sign + text.substring(i + 1), -1000 - i);
            }
        }
    }

    private static void theEndToo() {
        B.of("FAULTS: 1 (the end, too)");
        String text = "a1;b23*<0;c456;d7<1";
        int[] whole = new int[text.length() + 1];
        // a line may end behind a digit of its length, its star, and a digit of what it waits for
        whole[2] = 1;
        whole[5] = 2;
        whole[6] = 2;
        whole[7] = 2;
        whole[9] = 2;
        whole[12] = 3;
        whole[13] = 3;
        whole[14] = 3;
        whole[17] = 4;
        whole[19] = 4;
        for (int n = 1; n <= text.length(); n++) {
            due(text.substring(0, n), whole[n] > 0 ? whole[n] : -1000 - n);
        }
    }

    private static void aDigitTooMany() {
        B.of("FAULTS: 2 a digit too many, at it");
        due("a0000", -2004);
        due("a1000", -2004);
        due("a99999", -2004);
        due("a1;b0123*", -2007);
        due("a1;b1<000", -2008);
        due("a1;b1*<001", -2009);
        due("a1;b1<0000", -2008);
    }

    private static void noLower() {
        B.of("FAULTS: 3 a THING it WAITS for that is no lower than it, at its first digit");
        due("a1<0", -3003);
        due("a1*<0", -3004);
        due("a1<00", -3003);
        due("a1;b1<1", -3006);
        due("a1;b1<01", -3006);
        due("a1;b1<2", -3006);
        due("a1;b1<99", -3006);
        due("a1;b1<0", 2);
        String most = Bench.times("a1", 23, ";") + ";a1<";
        due(most + "22", 24);
        due(most + "23", -3000 - most.length());
        due(most + "24", -3000 - most.length());
        due(most + "99", -3000 - most.length());
    }

    private static void askedWhenItEnds() {
        B.of("FAULTS: 3 (asked when it ends)");
        due("a1;b1<123", -2008);
        due("a1;b1<991", -2008);
        due("a1<000", -2005);
        due("a1;b1<1x", -3006);
        due("a1;b1<10x", -3006);
        due("a1;b1<1;", -3006);
        due("a1;b1<1*", -3006);
        due("a1;b1<05", -3006);
        due("a1;b1<00", 2);
    }

    private static void a25thLine() {
        B.of("FAULTS: 4 a 25th LINE, at its letter");
        String all = Bench.times("a1", 24, ";");
        due(all, 24);
        due(all + ";a1", -4072);
        due(all + ";p", -4072);
        due(all + ";p1234<99;;", -4072);
        due(Bench.times("a1", 40, ";"), -4072);
    }

    private static void a25thLineThatCanNotStandThere() {
        B.of("FAULTS: 4 (if that can stand there)");
        String all = Bench.times("a1", 24, ";");
        due(all + ";", -1072);
        due(all + ";q", -1072);
        due(all + ";A1", -1072);
        due(all + ";;", -1072);
        due(all + ";1", -1072);
        due(all + "a1", -1071);
    }

    private static void theFirstFromTheLeft() {
        B.of("FAULTS, the first from the left");
        due("a1234;q", -2004);
        due("aq;b1234", -1001);
        due("a1<0;b1234", -3003);
        due("a1;b1<1;q", -3006);
        due("a1x;" + Bench.times("a1", 25, ";"), -1002);
        due("a1<7;" + Bench.times("a1", 25, ";"), -3003);
    }

    private static void inPlaceOfAllAhead() {
        B.of("In place of all ahead: DAYS 0, nothing DONE, none GUTTERED");
        PutOffWicks x = Bench.with("a9*;b9*;c9;d9<2", "d10(k<2)");
        x.days(3);
        B.due("done ahead", x.count(3), 3);
        B.due("guttered ahead", x.count(4), 2);
        B.due("days ahead", x.thingIs(3, 3), 3);
        B.due("a shorter parish", Bench.parish(x, "e5;f6*"), 2);
        B.due("things", x.count(1), 2);
        B.due("done", x.count(3), 0);
        B.due("guttered", x.count(4), 0);
        B.due("lit", x.count(2), 2);
        B.due("whose are left", x.count(8), 1 << 4 | 1 << 5);
        B.due("thing 2", x.thingIs(2, 0), -1);
        B.due("a longer parish", Bench.parish(x, "a1;a1;a1;a1;a1"), 5);
        for (int k = 0; k < 5; k++) {
            B.due("days of " + k, x.thingIs(k, 3), 0);
            B.due("done " + k, x.thingIs(k, 4), 0);
            B.due("lit " + k, x.thingIs(k, 2), 0);
            B.due("waits " + k, x.thingIs(k, 5), -2);
        }
    }

    private static void theDayStays() {
        B.of("(THE DAY stays)");
        PutOffWicks x = Bench.with("a9", "d0(1=1);x(1=2)");
        x.days(3);
        Bench.parish(x, "b1;c1");
        B.due("the day", x.count(0), 3);
        B.due("x, too", x.count(7), Bench.drawn(1, 6));
        B.due("the law, too", x.count(5), 2);
        x.days(100);
        B.due("it goes on", x.count(0), 103);
    }

    private static void aFaultAllStays() {
        B.of("5: a FAULT (all stays)");
        PutOffWicks x = Bench.with("a9*;b9*;c9;d9<2", "d10(k=0);x(k=3)");
        x.days(2);
        String before = Bench.look(x);
        String many = Bench.times("p7*", 24, ";");
        for (String bad : new String[] {"q", "p7*;p8!", "p7*;p88888", "p7*;p6<1", many + ";a"}) {
            B.due("parish " + bad + " is a fault", Bench.parish(x, bad) <= -1000, true);
            B.due("behind parish " + bad, Bench.look(x), before);
        }
    }

    private static void emptyThen() {
        B.of("5: by the first n bytes of the tape (1 to 200; empty then)");
        PutOffWicks x = new PutOffWicks();
        Bench.feed(x, "a1;b2;c3");
        B.due("the first five", x.parish(5), 2);
        B.due("empty", x.count(6), 0);
        Bench.feed(x, "q1");
        B.due("a fault", x.parish(2), -1000);
        B.due("empty behind a fault", x.count(6), 0);
        Bench.feed(x, "d4");
        B.due("the next text", x.parish(2), 1);
        B.due("its letter", x.thingIs(0, 0), 3);
    }

    private static void noSuchN() {
        B.of("5: NONE: as above (no such n)");
        PutOffWicks x = Bench.with("a1;b2*");
        Bench.fill(x, 13, 'a');
        String before = Bench.look(x);
        for (int n : new int[] {0, -1, 201, 260, 261, Integer.MIN_VALUE, Integer.MAX_VALUE}) {
            B.due("parish(" + n + ")", x.parish(n), -1);
            B.due("behind it", Bench.look(x), before);
        }
    }

    private static void notSoMany() {
        B.of("5: NONE: as above (it has not so many: the tape stays)");
        PutOffWicks x = new PutOffWicks();
        B.due("of none", x.parish(1), -1);
        String text = "a1;b2;c3;d4;e5;f6;g7";
        Bench.feed(x, text);
        B.due("21 of 20", x.parish(21), -1);
        B.due("the tape stays", x.count(6), 20);
        B.due("20 of 20", x.parish(20), 7);
        B.due("none is left", x.parish(1), -1);
    }
}
