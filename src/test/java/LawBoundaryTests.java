/** Each sentence on THE LAW that names a boundary has a test of its own (Terms, promise 4). */
public final class LawBoundaryTests {
    private static final Bench B = new Bench();

    public static void main(String[] args) {
        texts();
        faults();
        rules();
        conditions();
        facts();
        calls();
        B.end();
    }

    private static void texts() {
        atMost240Bytes();
        fullLawsAreAsked();
        noBlanks();
        noneAtFirst();
        semicolonBetweenTwo();
        letters();
        ofXOnlyC();
        oneToFiveDigits();
        factLetters();
        oneOfThree();
    }

    private static void faults() {
        whatCanNotStandThere();
        theEndToo();
        aSixthDigit();
        a17thRule();
        a17thRuleThatCanNotStandThere();
        aSeventhOpen();
        theBracketOfTheRuleCounts();
        openTillItsTestEnds();
        theEStandsAhead();
        theFirstFromTheLeft();
    }

    private static void rules() {
        atMost16Rules();
        tenthsAreBounded();
        tenDoesAlwaysNineDoesNot();
        burningIsBounded();
        burningOfNone();
        tenthsOfNone();
        anyXWillDo();
        theFirstWhoseCHolds();
    }

    private static void conditions() {
        oneOfThePartsMustHold();
        allTestsMustHold();
        notOfATest();
        fromTheLeftOn();
        bits32();
        dividedByZero();
        theWholeCDoesNotHold();
        theEOfItIsZero();
        refusedAgainAndAgain();
        asMuchAsMatters();
    }

    private static void facts() {
        theThing();
        whoseItIs();
        daysPutOff();
        length();
        litAsItWasAheadOfX();
        thingsOfHis();
        howManyWait();
        theDayModulo100();
        theDraw();
    }

    private static void calls() {
        inPlaceOfTheOneBefore();
        theOneBeforeStays();
        emptyThen();
        noSuchN();
        notSoMany();
    }

    private static void due(String text, int want) {
        PutOffWicks x = new PutOffWicks();
        B.due("law " + text, Bench.law(x, text), want);
        B.due("rules behind " + text, x.count(5), Math.max(0, want));
    }

    /** Whether a C holds for the one thing there is. */
    private static void holds(String c, boolean want) {
        B.due("holds " + c, Bench.with("a9", "x(" + c + ")").tried(1, 2) == 1, want);
    }

    /** Which things a law lights in a day. */
    private static void lights(String parish, String law, int want) {
        B.due("lights " + law, Bench.with(parish, law).tried(1, 2), want);
    }

    private static void burns(String law, int want) {
        B.due("burns " + law, 500 - Bench.with("a500*", law).tried(1, 10), want);
    }

    // ---- texts

    private static void atMost240Bytes() {
        B.of("THE LAW: a TEXT of at most 240 bytes");
        String text = Bench.times("x(12345=12345)", 15, ";") + ";d1(12345=12345)";
        B.due("the longest text", text.length(), 240);
        due(text, 16);
        PutOffWicks x = new PutOffWicks();
        Bench.feed(x, text + "x");
        B.due("law(241)", x.law(241), -1);
        B.due("the tape stays", x.count(6), 260);
        B.due("law(240)", x.law(240), 16);
        B.due("one byte", Bench.law(x, "x"), -1001);
    }

    private static void fullLawsAreAsked() {
        B.of("THE LAW: a TEXT of at most 240 bytes (all of it is asked)");
        String ones = Bench.times("1", 117, "+");
        B.due("as long as can be", ("x(" + ones + "=117)").length(), 240);
        holds(ones + "=117", true);
        holds(ones + "=116", false);
        String tests = Bench.times("1=1", 58, "&");
        holds(tests + "&1=1", true);
        holds(tests + "&1=2", false);
        String parts = Bench.times("1=2", 58, "|");
        holds(parts + "|1=1", true);
        holds(parts + "|1=2", false);
        holds("1+1*[1+1*[1+1*[1+1*[1+1*[1]]]]]=1+1*[1+1*[1+1*[1+1*[1+1*[1]]]]]", true);
        holds("1+1*[1+1*[1+1*[1+1*[1+1*[1]]]]]=6", true);
    }

    private static void noBlanks() {
        B.of("THE LAW: no blanks");
        String text = "d1+k*[2-l](!k=1&(p<2|n>3));x(m=1)";
        for (char blank : new char[] {' ', '\t', '\n', 0}) {
            for (int i = 0; i <= text.length(); i++) {
                due(text.substring(0, i) + blank + text.substring(i), -1000 - i);
            }
        }
    }

    private static void noneAtFirst() {
        B.of("THE LAW: (none at first)");
        PutOffWicks x = Bench.with("a9*;b9");
        B.due("count(5)", new PutOffWicks().count(5), 0);
        B.due("none is done", x.tried(100, 0), 0);
        B.due("burns by 1", x.tried(1, 10), 8);
        B.due("none is lit", x.tried(1, 2), 1);
    }

    private static void semicolonBetweenTwo() {
        B.of("RULES with a ; (59) between two");
        due("x(1=1);x(1=1)", 2);
        due(";x(1=1)", -1000);
        due("x(1=1);", -1007);
        due("x(1=1);;x(1=1)", -1007);
        due("x(1=1)x(1=1)", -1006);
        due("x(1=1):x(1=1)", -1006);
    }

    private static void letters() {
        B.of("a letter (d, b, x), E, and (C)");
        for (int sign = 0; sign < 256; sign++) {
            int want = sign == 'd' || sign == 'b' ? 1 : sign == 'x' ? -1001 : -1000;
            due((char) sign + "1(1=1)", want);
        }
        due("d(1=1)", -1001);
        due("b(1=1)", -1001);
        due("d1", -1002);
        due("d1()", -1003);
        due("d1(1)", -1004);
    }

    private static void ofXOnlyC() {
        B.of("of x only (C)");
        due("x(1=1)", 1);
        due("x1(1=1)", -1001);
        due("xk(1=1)", -1001);
        due("x[1](1=1)", -1001);
        due("x!1=1", -1001);
        due("x1=1", -1001);
    }

    private static void oneToFiveDigits() {
        B.of("a number of one to five digits");
        holds("0=00000", true);
        holds("7=00007", true);
        holds("99999+1=10000*10", true);
        holds("12345=10000+2345", true);
        due("x(/=1)", -1002);
        due("x(:=1)", -1002);
        due("x(-1=1)", -1002);
        due("x(+1=1)", -1002);
    }

    private static void factLetters() {
        B.of("a FACTOR: [E], a number, or a letter: k p n l i m o t w");
        for (int sign = 0; sign < 256; sign++) {
            boolean stands = sign >= '0' && sign <= '9' || sign > 0 && "kpnlimotw".indexOf(sign) >= 0;
            boolean opens = sign == '[' || sign == '(' || sign == '!';
            due("x(" + (char) sign + "=0)", stands ? 1 : opens ? -1003 : -1002);
        }
        due("x([]=0)", -1003);
        due("x([k=0)", -1004);
        due("x(k]=0)", -1003);
        due("x(kk=0)", -1003);
        due("x(2k=0)", -1003);
        due("x(k2=0)", -1003);
    }

    private static void oneOfThree() {
        B.of("a TEST: E, one of < > =, and E");
        for (int sign = 0; sign < 256; sign++) {
            boolean stands = sign == '<' || sign == '>' || sign == '=';
            boolean goesOn = sign >= '0' && sign <= '9' || sign > 0 && "+-*/%".indexOf(sign) >= 0;
            due("x(1" + (char) sign + "1)", stands ? 1 : goesOn ? -1005 : -1003);
        }
        due("x(1<=1)", -1004);
        due("x(1=1=1)", -1005);
        due("x(1=)", -1004);
        holds("1<2", true);
        holds("2<2", false);
        holds("3<2", false);
        holds("1>2", false);
        holds("2>2", false);
        holds("3>2", true);
        holds("1=2", false);
        holds("2=2", true);
    }

    // ---- faults

    private static final String LONG = "d1+k*[2-l]/3%4(!k=1&(p<2|n>3)|i=0);x(m=1);b99(!!w=12345)";

    private static void whatCanNotStandThere() {
        B.of("FAULTS: 1 what can't stand there");
        for (char sign : new char[] {'z', 'D', '#', '{', '^', 255, 128}) {
            for (int i = 0; i < LONG.length(); i++) {
                due(LONG.substring(0, i) + sign + LONG.substring(i + 1), -1000 - i);
            }
        }
        due("x((1)=1)", -1004);
        due("x([1=1]=1)", -1004);
        due("x(!1)", -1004);
        due("x(1=1))", -1006);
        due("x(1=1&)", -1006);
        due("x(1=1|)", -1006);
        due("x(&1=1)", -1002);
        due("x(!)", -1003);
        due("x(1=1!1=1)", -1005);
    }

    private static void theEndToo() {
        B.of("FAULTS: 1 (the end, too)");
        int first = LONG.indexOf(';');
        int second = LONG.lastIndexOf(';');
        for (int n = 1; n < LONG.length(); n++) {
            int want = n == first ? 1 : n == second ? 2 : -1000 - n;
            due(LONG.substring(0, n), want);
        }
        due(LONG, 3);
    }

    private static void aSixthDigit() {
        B.of("FAULTS: 2 a sixth digit, at it");
        due("x(123456=1)", -2007);
        due("x(000000=1)", -2007);
        due("x(1=1234567)", -2009);
        due("d123456(1=1)", -2006);
        due("d[1+123456](1=1)", -2009);
        due("x(12345=12345)", 1);
    }

    private static void a17thRule() {
        B.of("FAULTS: 4 a 17th RULE, at its letter");
        String all = Bench.times("x(1=1)", 16, ";");
        due(all, 16);
        due(all + ";x(1=1)", -4112);
        due(all + ";d", -4112);
        due(all + ";b123456", -4112);
        due(all + ";x(((((((((", -4112);
    }

    private static void a17thRuleThatCanNotStandThere() {
        B.of("FAULTS: 4 (if that can stand there)");
        String all = Bench.times("x(1=1)", 16, ";");
        due(all + ";", -1112);
        due(all + ";k", -1112);
        due(all + ";X(1=1)", -1112);
        due(all + ";;", -1112);
        due(all + "x(1=1)", -1111);
    }

    private static void aSeventhOpen() {
        B.of("FAULTS: 5 a seventh of ( [ ! that are open in one another, at it");
        String[] six = {"((((((", "!!!!!!", "[[[[[[", "(!(!([", "!(!(![", "((([[[", "!!![[[", "!([[[[", "(((((!",
            "!!!!!("};
        for (String openers : six) {
            due("x(" + openers + "1=1", -5007);
            due("x(" + openers, -5007);
            String five = openers.substring(0, 5);
            StringBuilder text = new StringBuilder("x(" + five + "1");
            for (int i = 4; i >= 0 && five.charAt(i) == '['; i--) {
                text.append(']');
            }
            text.append("=1");
            for (int i = 4; i >= 0; i--) {
                text.append(five.charAt(i) == '(' ? ")" : "");
            }
            due(text + ")", 1);
        }
        due("x(1=[[[[[1]]]]])", 1);
        due("x(1=[[[[[[1]]]]]])", -5009);
        due("x([[[[[1]]]]]+[[[[[1]]]]]=2)", 1);
        due("x([[[[[1]]]]]+[[[[[[1]]]]]]=2)", -5019);
        due("x(((((1=1)))))", 1);
        due("x((((1=1)&(1=1))|((1=1)))&(((1=1))))", 1);
    }

    private static void theBracketOfTheRuleCounts() {
        B.of("FAULTS: 5 (the ( of the RULE counts)");
        due("x((((((1=1))))))", 1);
        due("x(((((((1=1)))))))", -5007);
        due("x(!!!!!1=1)", 1);
        due("x(!!!!!!1=1)", -5007);
        due("d1((((((1=1))))))", 1);
        due("d1(((((((1=1)))))))", -5008);
    }

    private static void openTillItsTestEnds() {
        B.of("FAULTS: 5 (a ! is open till its TEST ends)");
        due("x(!!!!1=[1])", 1);
        due("x(!!!!1=[[1]])", -5009);
        due("x(!!!!!1=[1])", -5009);
        due("x(!!!!!1=1&!!!!!1=1)", 1);
        due("x(!!!!!1=1|[[[[[1]]]]]=1)", 1);
        due("x(!(1=1)&(((((1=1))))))", 1);
        due("x(!(!1=1&((((1=1))))))", -5012);
        due("x(!(!1=1&(((1=1)))))", 1);
        due("x(!(![[1]]=[[[1]]]))", -5013);
    }

    private static void theEStandsAhead() {
        B.of("FAULTS: 5 (the E of a RULE stands ahead of it)");
        due("d[[[[[[1]]]]]](1=1)", 1);
        due("b[[[[[[[1]]]]]]](1=1)", -5007);
        due("d[[[[[[1]]]]]]((((((1=1))))))", 1);
        due("d[[[[[[1]]]]]]+[[[[[[1]]]]]]([[[[[1]]]]]=1)", 1);
        due("d[[[[[[1]]]]]]([[[[[[1]]]]]]=1)", -5020);
    }

    private static void theFirstFromTheLeft() {
        B.of("FAULTS, the first from the left");
        due("x(123456=z)", -2007);
        due("x(z=123456)", -1002);
        due("x(((((((123456=1", -5007);
        due("x(123456=1);;", -2007);
        due("x(1=1);z" + Bench.times(";x(1=1)", 17, ""), -1007);
    }

    // ---- rules

    private static void atMost16Rules() {
        B.of("RULES (16 at most)");
        String fifteen = Bench.times("x(1=2)", 15, ";");
        lights("a9", fifteen + ";x(1=1)", 1);
        lights("a9", fifteen + ";x(1=2)", 0);
        lights("a9", "x(1=1);" + fifteen, 1);
        burns(Bench.times("b7(1=2)", 15, ";") + ";b9(1=1)", 9);
    }

    private static int doneWith(String law, int seed) {
        PutOffWicks x = Bench.with("a9", law);
        x.seed(seed);
        return x.tried(1, 0);
    }

    /** A seed whose second draw is this one. */
    private static int seedOfSecond(int draw) {
        int seed = 0;
        while (Bench.drawn(seed, 2) % 10 != draw) {
            seed++;
        }
        return seed;
    }

    private static void tenthsAreBounded() {
        B.of("d tenths that a THING is DONE in a DAY (0 to 10; beyond its bounds the bound)");
        String[] always = {"10", "11", "99999", "65536*32767+65535"};
        String[] never = {"0", "0-1", "0-99999", "65536*32768"};
        for (int draw = 0; draw < 10; draw++) {
            int seed = seedOfSecond(draw);
            for (int i = 0; i < 4; i++) {
                B.due("d " + always[i] + " at " + draw, doneWith("d" + always[i] + "(1=1)", seed), 1);
                B.due("d " + never[i] + " at " + draw, doneWith("d" + never[i] + "(1=1)", seed), 0);
            }
        }
    }

    private static void tenDoesAlwaysNineDoesNot() {
        B.of("d tenths: DRAW below d");
        for (int d = 0; d <= 10; d++) {
            for (int draw = 0; draw < 10; draw++) {
                B.due("d " + d + " at " + draw, doneWith("d" + d + "(1=1)", seedOfSecond(draw)), draw < d ? 1 : 0);
            }
        }
    }

    private static void burningIsBounded() {
        B.of("b how much of a WICK that is LIT burns in a DAY (0 to 99; beyond its bounds the bound)");
        burns("b0(1=1)", 0);
        burns("b1(1=1)", 1);
        burns("b98(1=1)", 98);
        burns("b99(1=1)", 99);
        burns("b100(1=1)", 99);
        burns("b99999(1=1)", 99);
        burns("b65536*32767+65535(1=1)", 99);
        burns("b0-1(1=1)", 0);
        burns("b65536*32768(1=1)", 0);
    }

    private static void burningOfNone() {
        B.of("b (none: 1)");
        burns("x(1=1)", 1);
        burns("b50(1=2)", 1);
        burns("b50(1=2);b60(k=1)", 1);
        burns("b50(1/0=1)", 1);
    }

    private static void tenthsOfNone() {
        B.of("of d none: 0");
        for (int draw = 0; draw < 10; draw++) {
            B.due("no d", doneWith("b1(1=1)", seedOfSecond(draw)), 0);
            B.due("none whose C holds", doneWith("d10(1=2);d10(1/0=0)", seedOfSecond(draw)), 0);
        }
    }

    private static void anyXWillDo() {
        B.of("x a WICK is LIT in a DAY (any will do)");
        lights("a9;a9;a9;a9", "x(k=0);x(k=2);x(1/0=1)", 5);
        lights("a9;a9;a9;a9", "x(1/0=1);x(k=3)", 8);
        lights("a9;a9;a9;a9", "x(k=9)", 0);
        lights("a9", "b1(1=1)", 0);
    }

    private static void theFirstWhoseCHolds() {
        B.of("of the first RULE of d, b whose C holds the E");
        burns("b3(1=1);b4(1=1)", 3);
        burns("b3(1=2);b4(1=1);b5(1=1)", 4);
        burns("d9(1=1);x(1=1);b6(1=1)", 6);
        B.due("d", Bench.with("a9;a9;a9", "b10(1=1);d0(k=1);d10(k<3);d0(1=1)").tried(1, 3), 5);
    }

    // ---- conditions

    private static void oneOfThePartsMustHold() {
        B.of("C: PARTS with a | between two, one of which must hold");
        holds("1=1", true);
        holds("1=2", false);
        holds("1=2|1=1", true);
        holds("1=1|1=2", true);
        holds("1=2|1=2", false);
        holds("1=2|1=2|1=1", true);
        holds("1=1|1=1&1=2", true);
        holds("1=2&1=1|1=1", true);
        holds("1=2&1=1|1=2", false);
    }

    private static void allTestsMustHold() {
        B.of("a PART: TESTS with an & between two, all of which must");
        holds("1=1&1=1", true);
        holds("1=1&1=2", false);
        holds("1=2&1=1", false);
        holds("1=1&1=1&1=2", false);
        holds("(1=1|1=1)&1=2", false);
        holds("1=2&(1=1|1=1)", false);
        holds("(1=2|1=1)&(1=1|1=2)", true);
    }

    private static void notOfATest() {
        B.of("a TEST: !TEST, (C)");
        holds("!1=1", false);
        holds("!1=2", true);
        holds("!!1=1", true);
        holds("!!!!!1=1", false);
        holds("!1=2&1=2", false);
        holds("!1=1|1=1", true);
        holds("!(1=2&1=2)", true);
        holds("!(1=1|1=2)", false);
        holds("((((1=1))))", true);
    }

    private static void fromTheLeftOn() {
        B.of("E: TERMS with + or -; a TERM: FACTORS with * / %; from the left on");
        holds("20-5-5=10", true);
        holds("20-5+5=20", true);
        holds("20/2/5=2", true);
        holds("7*2/4=3", true);
        holds("7/4*2=2", true);
        holds("17%10*2=14", true);
        holds("2*17%10=4", true);
        holds("2+3*4=14", true);
        holds("[2+3]*4=20", true);
        holds("20-2*3-4=10", true);
        holds("20-[5-5]=20", true);
    }

    private static void bits32() {
        B.of("All is reckoned with 32 bits, as the machine does");
        String most = "65536*32767+65535";
        String least = "65536*32768";
        holds(most + ">0", true);
        holds(most + "+1<0", true);
        holds(most + "+1=" + least, true);
        holds(least + "<0", true);
        holds(least + "-1=" + most, true);
        holds("0-" + least + "=" + least, true);
        holds(least + "*2=0", true);
        holds("65536*65536=0", true);
        holds("99999*99999=14098*10000*10+65409", true);
        holds(least + "/[0-1]=" + least, true);
        holds(least + "%[0-1]=0", true);
        holds("[0-7]/2=0-3", true);
        holds("[0-7]%2=0-1", true);
        holds("7/[0-2]=0-3", true);
        holds("7%[0-2]=1", true);
        holds(least + "<" + most, true);
    }

    private static void dividedByZero() {
        B.of("what is divided by 0 is REFUSED");
        holds("1/0=0|1=1", false);
        holds("1%0=0|1=1", false);
        holds("0/0=0|1=1", false);
        holds("0%0=0|1=1", false);
        holds("1/[1-1]=0|1=1", false);
        holds("0/1=0", true);
        holds("1=1/0|1=1", false);
        holds("0*[1/0]=0|1=1", false);
    }

    private static void theWholeCDoesNotHold() {
        B.of("then the whole C of the RULE does not hold");
        holds("!1/0=1", false);
        holds("!!1/0=1", false);
        holds("!(1/0=1)", false);
        holds("(1/0=1|1=1)|1=1", false);
        holds("!(!(1/0=1))|1=1", false);
        holds("1=1&1/0=1|1=1", false);
        lights("a9;a9", "x(1/k=1|1=1)", 2);
        lights("a9;a9", "x(1/k=1|1=1);x(1=1)", 3);
        burns("b9(1/k=1|1=1);b5(1=1)", 5);
    }

    private static void theEOfItIsZero() {
        B.of("the E of it is 0");
        burns("b9/k(1=1)", 0);
        burns("b9%k+50(1=1)", 0);
        burns("b50+9/k(1=1);b7(1=1)", 0);
        B.due("d", Bench.with("a9;a9;a9", "d10+1/k(1=1);d10(1=1)").tried(1, 3), 6);
    }

    private static void refusedAgainAndAgain() {
        B.of("what is divided by 0 is REFUSED (again and again)");
        PutOffWicks x = Bench.with(all24(), "x(1+2*[3+4*[5/0]]=0);b1+2*[3/0](1=1)");
        x.days(100);
        Bench.law(x, "x(1+2*[3+4*[5/1]]=47);b1+2*[3/1](1=1)");
        B.due("what is not refused holds", x.tried(1, 2), (1 << 24) - 1);
        B.due("and burns", x.thingIs(0, 1) - x.tried(1, 10), 7);
    }

    private static void asMuchAsMatters() {
        B.of("Of a C as much is asked, from the left, as matters");
        holds("1=1|1/0=1", true);
        holds("1=1|1=1&1/0=1", true);
        holds("1=2&1/0=1|1=1", true);
        holds("1=2&1/0=1&1/0=1|1=1", true);
        holds("(1=1|1/0=1)&1=1", true);
        holds("!(1=2&1/0=1)", true);
        holds("1=2|1/0=1|1=1", false);
        holds("1=1&1/0=1|1=1", false);
        holds("(1=2&1/0=1)|1=1", true);
        holds("1=1&(1=1|1/0=1)&1=1", true);
        holds("1=1&(1=2|1/0=1)|1=1", false);
    }

    // ---- facts

    private static String all24() {
        return Bench.times("a9", 24, ";");
    }

    private static void theThing() {
        B.of("k the THING");
        for (int k = 0; k < 24; k++) {
            lights(all24(), "x(k=" + k + ")", 1 << k);
        }
        lights(all24(), "x(k>23|k<0)", 0);
    }

    private static void whoseItIs() {
        B.of("p whose it is");
        lights("a9;p9;b9;o9", "x(p=0)", 1);
        lights("a9;p9;b9;o9", "x(p=15)", 2);
        lights("a9;p9;b9;o9", "x(p=1|p=14)", 12);
    }

    private static void daysPutOff() {
        B.of("n DAYS it was put off");
        PutOffWicks x = Bench.with("a9", "x(n=0)");
        B.due("0 at first", x.tried(1, 2), 1);
        PutOffWicks y = Bench.with("a9", "x(n=99)");
        B.due("99 days", y.tried(99, 2), 0);
        B.due("100 days", y.tried(100, 2), 1);
    }

    private static void length() {
        B.of("l LENGTH");
        B.due("0", Bench.with("a0", "d10(l=0)").tried(1, 3), 1);
        B.due("999", Bench.with("a999", "d10(l=999)").tried(1, 3), 1);
        B.due("ahead of its burning", Bench.with("a9*", "d10(l=9)").tried(1, 3), 1);
        B.due("not behind it", Bench.with("a9*", "d10(l=8)").tried(1, 3), 0);
    }

    private static void litAsItWasAheadOfX() {
        B.of("i LIT (1, 0; as it was ahead of x)");
        B.due("lit by x alone", Bench.with("a50", "x(1=1);b20(i=1);b30(i=0)").tried(1, 10), 20);
        B.due("lit ahead", Bench.with("a50*", "x(1=1);b20(i=1);b30(i=0)").tried(1, 10), 30);
        B.due("d", Bench.with("a50", "x(1=1);d10(i=0)").tried(1, 3), 1);
        B.due("d of one burnt out", Bench.with("a1*", "d10(i=1)").tried(1, 3), 1);
        B.due("the next day", Bench.with("a50", "x(1=1);d10(i=1)").tried(2, 3), 1);
    }

    private static void thingsOfHis() {
        B.of("m how many THINGS of his are not DONE (it, too)");
        lights("a9;b9;b9;p9", "x(m=1)", 9);
        lights("a9;b9;b9;p9", "x(m=2)", 6);
        lights(all24(), "x(m=24)", (1 << 24) - 1);
        B.due("as it is then", Bench.with("a9;a9;a9", "d10(m=3);x(m=2)").tried(1, 2), 6);
        B.due("done ones do not count", Bench.with("a9;a9", "d10(k=0);x(m=1)").tried(2, 2), 2);
    }

    private static void howManyWait() {
        B.of("o how many WAIT for it (DONE ones, too)");
        lights("a9;a9<0;a9<0;a9<1", "x(o=0)", 12);
        lights("a9;a9<0;a9<0;a9<1", "x(o=1)", 2);
        lights("a9;a9<0;a9<0;a9<1", "x(o=2)", 1);
        lights("a9;" + Bench.times("a9<0", 23, ";"), "x(o=23)", 1);
        PutOffWicks x = Bench.with("a9;a9;a9;a9", "d10(k>0)");
        x.days(1);
        x.keep();
        B.due("three are done", x.count(3), 14);
        Bench.parish(x, "a9;a9<0;a9<0;a9<0");
        x.undo();
        Bench.law(x, "x(o=3)");
        B.due("done ones wait, too", x.tried(1, 2), 1);
    }

    private static void theDayModulo100() {
        B.of("t THE DAY modulo 100");
        PutOffWicks x = Bench.with("a9;a9", "d10(t=99&k=0);x(t=0)");
        B.due("0 on the first day", x.tried(1, 2), 3);
        B.due("99 days", x.tried(99, 3), 0);
        B.due("99 on the hundredth", x.tried(100, 3), 1);
        x.days(100);
        x.lit(1, false);
        B.due("0 behind a hundred", x.tried(1, 2), 2);
        Bench.law(x, "x(t=100)");
        B.due("never 100", x.tried(100, 2), 0);
    }

    private static void theDraw() {
        B.of("w the DRAW");
        for (int seed = 0; seed < 40; seed++) {
            for (int draw = 0; draw < 10; draw++) {
                PutOffWicks x = Bench.with("a9", "x(w=" + draw + ")");
                x.seed(seed);
                B.due("seed " + seed, x.tried(1, 2), Bench.drawn(seed, 1) % 10 == draw ? 1 : 0);
            }
        }
        PutOffWicks x = Bench.with("a9", "x(w<0|w>9)");
        B.due("0 to 9", x.dark(100), 0);
        x.days(100);
        B.due("none of a hundred", x.count(2), 0);
    }

    // ---- calls

    private static void inPlaceOfTheOneBefore() {
        B.of("4: THE LAW, in place of the one before: how many RULES");
        PutOffWicks x = Bench.with("a9", "d10(1=1);b5(1=1);x(1=1)");
        B.due("three rules", x.count(5), 3);
        B.due("one rule", Bench.law(x, "b7(1=1)"), 1);
        B.due("count(5)", x.count(5), 1);
        B.due("no d is left", x.tried(1, 3), 0);
        B.due("no x is left", x.tried(1, 2), 0);
        String[] kinds = {"d10(1=1)", "x(1=1)", "b5(1=1)"};
        for (String kind : kinds) {
            Bench.parish(x, "a9*;b9");
            Bench.law(x, "x(1=2);" + kind + ";" + kind);
            Bench.law(x, "x(1=2)");
            B.due("behind " + kind + ", done", x.tried(1, 3), 0);
            B.due("behind " + kind + ", lit", x.tried(1, 2), 1);
            B.due("behind " + kind + ", burns", x.tried(1, 10), 8);
        }
        Bench.parish(x, "a9");
        String ones = "x(" + Bench.times("1", 117, "+") + "=11";
        for (int i = 0; i < 5; i++) {
            B.due("a law of 240 bytes", Bench.law(x, ones + "7)"), 1);
            B.due("it holds", x.tried(1, 2), 1);
            B.due("another one", Bench.law(x, ones + "6)"), 1);
            B.due("it does not hold", x.tried(1, 2), 0);
            B.due("a fault at the end of one", Bench.law(x, ones + "7"), -1239);
        }
    }

    private static void theOneBeforeStays() {
        B.of("4: a FAULT: -1000 times its number, less its place (the one before stays)");
        PutOffWicks x = Bench.with("a9*;a9", "d10(k=1);b5(1=1);x(1=2)");
        String before = Bench.look(x);
        String many = Bench.times("x(1=1)", 17, ";");
        String[] bad = {"z", "d10(1=1);x(1=1);", "x(1=1);d123456(1=1)", "d10(1=1);x(!!!!!!!1=1)", many};
        for (String text : bad) {
            B.due("law " + text + " is a fault", Bench.law(x, text) <= -1000, true);
            B.due("behind law " + text, Bench.look(x), before);
        }
    }

    private static void emptyThen() {
        B.of("4: by the first n bytes of the tape (1 to 240; empty then)");
        PutOffWicks x = new PutOffWicks();
        Bench.feed(x, "x(1=1);x(1=1)");
        B.due("the first six", x.law(6), 1);
        B.due("empty", x.count(6), 0);
        Bench.feed(x, "x(1=1)!");
        B.due("a fault", x.law(7), -1006);
        B.due("empty behind a fault", x.count(6), 0);
        Bench.feed(x, "x(1=1);x(1=1)");
        B.due("the next text", x.law(13), 2);
    }

    private static void noSuchN() {
        B.of("4: NONE: no such n");
        PutOffWicks x = Bench.with("a9", "d10(k=1)");
        Bench.fill(x, 13, 'x');
        String before = Bench.look(x);
        for (int n : new int[] {0, -1, 241, 260, 261, Integer.MIN_VALUE, Integer.MAX_VALUE}) {
            B.due("law(" + n + ")", x.law(n), -1);
            B.due("behind it", Bench.look(x), before);
        }
        B.due("law(240)", x.law(240), -1001);
    }

    private static void notSoMany() {
        B.of("4: NONE: it has not so many (the tape stays)");
        PutOffWicks x = new PutOffWicks();
        B.due("of none", x.law(1), -1);
        Bench.feed(x, "x(12345=12345&11=11)");
        B.due("21 of 20", x.law(21), -1);
        B.due("the tape stays", x.count(6), 20);
        B.due("20 of 20", x.law(20), 1);
        B.due("none is left", x.law(1), -1);
    }
}
