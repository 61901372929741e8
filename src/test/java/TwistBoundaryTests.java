/** Each sentence on A TWIST that names a boundary has a test of its own (Terms, ==== 2, promise 18). */
public final class TwistBoundaryTests {
    private static final Bench B = new Bench();

    public static void main(String[] args) {
        atMost80Bytes();
        noBlanks();
        letters();
        digits();
        digitsAheadOfABracket();
        turnsAtMost64();
        whatCanNotStandThere();
        theEndToo();
        beyondTheLastButOne();
        aThirdOpen();
        moreThan64();
        moreThan64AskedWhenItEnds();
        moreThan64OfAnInnerOneFirst();
        theFirstFromTheLeft();
        oversLessUnders();
        whereItComesOut();
        takenAwayAgainAndAgain();
        onceAtLeast();
        placesAlone();
        strands2To8();
        noSuchWhat();
        noSuchN();
        notSoMany();
        emptyThen();
        B.end();
    }

    private static void due(int strands, String text, int what, int want) {
        String call = "twist " + strands + " " + text + " what " + what;
        B.due(call, Bench.twist(new PutOffWicks(), strands, text, what), want);
    }

    private static void turns(String text, int want) {
        due(8, text, 100, want);
    }

    private static void atMost80Bytes() {
        B.of("A TWIST: a TEXT of at most 80 bytes");
        String text = Bench.times("(a)", 8, "") + Bench.times("b", 56, "");
        B.due("the longest text", text.length(), 80);
        turns(text, 64);
        PutOffWicks x = new PutOffWicks();
        Bench.feed(x, text + "b");
        B.due("n 81", x.twist(8, 81, 100), -1);
        B.due("the tape stays", x.count(6), 100);
        B.due("n 80", x.twist(8, 80, 100), 64);
        turns("a", 1);
    }

    private static void noBlanks() {
        B.of("A TWIST: no blanks");
        String text = "a2B3(c(D)e)";
        for (char blank : new char[] {' ', '\t', '\n', 0}) {
            for (int i = 0; i <= text.length(); i++) {
                turns(text.substring(0, i) + blank + text.substring(i), -1000 - i);
            }
        }
    }

    private static void letters() {
        B.of("a letter a to g, or A to G");
        for (int sign = 0; sign < 256; sign++) {
            boolean over = sign >= 'a' && sign <= 'g';
            boolean under = sign >= 'A' && sign <= 'G';
            boolean goesOn = sign == '(' || sign >= '2' && sign <= '9';
            turns("" + (char) sign, over || under ? 1 : goesOn ? -1001 : -1000);
        }
    }

    private static void digits() {
        B.of("ahead of it perhaps a digit 2 to 9 (so many times)");
        for (int sign = '2'; sign <= '9'; sign++) {
            turns((char) sign + "a", sign - '0');
            turns("b" + (char) sign + "A", 1 + sign - '0');
        }
        turns("0a", -1000);
        turns("1a", -1000);
        turns("/a", -1000);
        turns(":a", -1000);
        turns("23a", -1001);
        turns("20a", -1001);
        turns("a2", -1002);
    }

    private static void digitsAheadOfABracket() {
        B.of("or (TURNS), ahead of it perhaps a digit 2 to 9");
        turns("(a)", 1);
        turns("2(a)", 2);
        turns("9(ab)", 18);
        turns("1(a)", -1000);
        turns("0(a)", -1000);
        turns("22(a)", -1001);
        turns("()", -1001);
        turns("2()", -1002);
        turns("(())", -1002);
        turns("(a())", -1003);
        turns("(2)", -1002);
        turns("(a2)", -1003);
        turns("2)", -1001);
        turns(")", -1000);
        turns("(a)(b)(c)", 3);
    }

    private static void turnsAtMost64() {
        B.of("64 TURNS at most");
        turns(Bench.times("a", 64, ""), 64);
        turns(Bench.times("a", 65, ""), -6064);
        turns("8(8a)", 64);
        turns("8(4(2A))", 64);
        turns("7(9a)a", 64);
        turns("7(9a)(a)", 64);
        turns("7(9a)aA", -6006);
    }

    private static void whatCanNotStandThere() {
        B.of("FAULTS: 1 (what can't stand there)");
        String text = "a2B3(c2(D)e)F";
        for (char sign : new char[] {'h', 'H', '@', '`', '[', '!', 255, '1', '0'}) {
            for (int i = 0; i < text.length(); i++) {
                turns(text.substring(0, i) + sign + text.substring(i + 1), -1000 - i);
            }
        }
        turns("a)", -1001);
        turns("(a))", -1003);
    }

    private static void theEndToo() {
        B.of("FAULTS: 1 (the end, too)");
        String text = "a2B3(c2(D)e)F";
        for (int n = 1; n < text.length(); n++) {
            int want = n == 1 ? 1 : n == 3 ? 3 : n == 12 ? 15 : -1000 - n;
            turns(text.substring(0, n), want);
        }
        turns(text, 16);
        turns("(", -1001);
        turns("2", -1001);
    }

    private static void beyondTheLastButOne() {
        B.of("FAULTS: 3 a place beyond the last but one, at its letter");
        for (int strands = 2; strands <= 8; strands++) {
            for (int place = 0; place < 7; place++) {
                boolean stands = place <= strands - 2;
                char over = (char) ('a' + place);
                char under = (char) ('A' + place);
                due(strands, "" + over, 100, stands ? 1 : -3000);
                due(strands, "" + under, 100, stands ? 1 : -3000);
                due(strands, "a3" + over, 100, stands ? 4 : -3002);
                due(strands, "2(a" + under + ")", 100, stands ? 4 : -3003);
            }
        }
    }

    private static void aThirdOpen() {
        B.of("FAULTS: 5 a third ( that is open in another one, at it");
        turns("((a))", 1);
        turns("(((a)))", -5002);
        turns("(((", -5002);
        turns("((2(a)))", -5003);
        turns("(a2(b3(c)))", -5006);
        turns("(a(b)(c))(d(e)(f))", 6);
        turns("((a)((b)))", -5005);
        turns("((a))((b))((c))", 3);
        turns("((a))(((b)))", -5007);
    }

    private static void moreThan64() {
        B.of("FAULTS: 6 more than 64, at the first byte of what (or its digit) by which they are");
        String all = "8(8a)";
        turns(all + "a", -6005);
        turns(all + "2a", -6005);
        turns(all + "bB", -6005);
        turns("7(9a)2a", -6005);
        turns("7(9a)a9a", -6006);
        turns("8(9a)", -6000);
        turns("a8(8a)", -6001);
        turns("2(" + Bench.times("a", 33, "") + ")", -6000);
        turns("2(" + Bench.times("a", 32, "") + ")", 64);
        turns("9(9(9a))", -6002);
    }

    private static void moreThan64AskedWhenItEnds() {
        B.of("FAULTS: 6 (asked when it ends)");
        turns("9(9a", -1004);
        turns("9(9ax)", -1004);
        turns("9(9a2)", -1005);
        turns("9(9a((a", -5005);
        due(4, "9(9ag)", 100, -3004);
        due(4, "9(9a)g", 100, -6000);
        due(4, "8(8a)g", 100, -3005);
        turns("8(8a)2", -1006);
        turns("8(8a)2x", -1006);
        turns("8(8a)x", -1005);
    }

    private static void moreThan64OfAnInnerOneFirst() {
        B.of("FAULTS: 6 (of an inner one first)");
        turns("2(9(8a))", -6002);
        turns("2(5(8a))", -6000);
        turns("9(2(4a))", -6000);
        turns("9(2(3a))", 54);
        turns("8(8a)(a)", -6006);
        turns("8(8a)2(2a)", -6007);
        turns("7(9a)2(a)", -6005);
        turns("7(9a)(2a)", -6006);
        turns("7(9a)((2a))", -6007);
    }

    private static void theFirstFromTheLeft() {
        B.of("FAULTS (the first from the left)");
        due(3, "cx", 100, -3000);
        due(3, "xc", 100, -1000);
        due(3, "(((c", 100, -5002);
        due(3, "((c((", 100, -3002);
    }

    private static void oversLessUnders() {
        B.of("OVERS less unders");
        due(2, "8(8a)", 101, 64);
        due(2, "8(8A)", 101, -64);
        due(2, "aA", 101, 0);
        due(8, "gG3F", 101, -3);
    }

    private static void whereItComesOut() {
        B.of("where the STRAND of a place comes out");
        due(2, "a", 0, 1);
        due(2, "a", 1, 0);
        due(8, "abcdefg", 0, 7);
        due(8, "ABCDEFG", 0, 7);
        due(8, "gfedcba", 7, 0);
        due(8, "abcdefg", 7, 6);
        due(8, "a", 7, 7);
        due(8, "g", 7, 6);
        due(8, "g", 6, 7);
        due(8, "8(8a)", 0, 0);
    }

    private static void takenAwayAgainAndAgain() {
        B.of("SHORT: both are taken away, again and again");
        due(8, "a", 102, 1);
        due(8, "aA", 102, 0);
        due(8, "Aa", 102, 0);
        due(8, "aa", 102, 2);
        due(8, "aB", 102, 2);
        due(8, "abcdefgGFEDCBA", 102, 0);
        due(8, "abBaA", 102, 1);
        due(8, "abBA2(cC)", 102, 0);
        due(8, "8(4a)8(4A)", 102, 0);
        due(8, "4(8a)4(8A)", 102, 0);
        due(8, "8(8a)", 102, 64);
        due(8, "acA", 102, 3);
        due(8, "aAaAa", 102, 1);
    }

    private static void onceAtLeast() {
        B.of("how often it must be done (once at least)");
        due(2, "aA", 103, 1);
        due(2, "2a", 103, 1);
        due(8, "3(ab)", 103, 1);
        due(2, "a", 103, 2);
        due(8, "abcdefg", 103, 8);
        due(8, "abcdfg", 103, 15);
    }

    private static void placesAlone() {
        B.of("till all STRANDS are at their places again (places alone)");
        due(2, "aa", 103, 1);
        due(3, "aBaBaB", 103, 1);
        due(3, "aB", 103, 3);
        due(5, "abd", 103, 6);
    }

    private static PutOffWicks fed() {
        PutOffWicks x = new PutOffWicks();
        Bench.fill(x, 6, 'a');
        return x;
    }

    private static void strands2To8() {
        B.of("18: so many STRANDS (2 to 8); NONE: no such ones");
        PutOffWicks x = fed();
        for (int strands : new int[] {1, 0, -1, 9, 100, Integer.MIN_VALUE, Integer.MAX_VALUE}) {
            B.due(strands + " strands", x.twist(strands, 1, 100), -1);
            B.due(strands + " strands, a place", x.twist(strands, 1, 0), -1);
        }
        B.due("the tape stays", x.count(6), 120);
        B.due("2 strands", x.twist(2, 1, 100), 1);
        B.due("8 strands", fed().twist(8, 1, 100), 1);
    }

    private static void noSuchWhat() {
        B.of("18: what 100, 101, 102, 103, else the place; NONE: no such ones");
        PutOffWicks x = fed();
        for (int what : new int[] {-1, 8, 9, 99, 104, Integer.MIN_VALUE, Integer.MAX_VALUE}) {
            B.due("what " + what, x.twist(8, 1, what), -1);
        }
        for (int strands = 2; strands <= 8; strands++) {
            B.due("what " + strands + " of as many strands", x.twist(strands, 1, strands), -1);
        }
        B.due("the tape stays", x.count(6), 120);
        for (int strands = 2; strands <= 8; strands++) {
            int last = strands - 1;
            B.due("the last place of " + strands, fed().twist(strands, 2, last), last);
        }
        PutOffWicks wrong = new PutOffWicks();
        Bench.feed(wrong, "x");
        B.due("NONE ahead of a fault", wrong.twist(2, 1, 2), -1);
        B.due("the tape stays", wrong.count(6), 20);
    }

    private static void noSuchN() {
        B.of("18: by the first n bytes of the tape (1 to 80); NONE: no such ones");
        PutOffWicks x = fed();
        for (int n : new int[] {0, -1, 81, 120, 121, Integer.MIN_VALUE, Integer.MAX_VALUE}) {
            B.due("n " + n, x.twist(2, n, 100), -1);
        }
        B.due("the tape stays", x.count(6), 120);
        B.due("n 80", x.twist(2, 80, 100), -6064);
        B.due("n 1", fed().twist(2, 1, 100), 1);
    }

    private static void notSoMany() {
        B.of("18: NONE: it has not so many (the tape stays)");
        PutOffWicks x = new PutOffWicks();
        B.due("of none", x.twist(2, 1, 100), -1);
        Bench.fill(x, 1, 'a');
        B.due("21 of 20", x.twist(2, 21, 100), -1);
        B.due("the tape stays", x.count(6), 20);
        B.due("20 of 20", x.twist(2, 20, 100), 20);
        B.due("none is left", x.twist(2, 1, 100), -1);
    }

    private static void emptyThen() {
        B.of("18: by the first n bytes of the tape (empty then)");
        PutOffWicks x = Bench.with("a5*;b6<0", "d10(k=1)");
        String before = Bench.look(x);
        Bench.feed(x, "abcdefg");
        B.due("the first three", x.twist(8, 3, 100), 3);
        B.due("nothing else changes", Bench.look(x), before);
        Bench.feed(x, "abz");
        B.due("a fault", x.twist(8, 3, 100), -1002);
        B.due("empty behind a fault", Bench.look(x), before);
        B.due("64 turns", Bench.twist(x, 8, "8(8a)", 102), 64);
        B.due("of them nothing is left", Bench.twist(x, 8, "bB", 102), 0);
        B.due("open brackets", Bench.twist(x, 8, "a(b(c", 100), -1005);
        B.due("of them nothing is left, either", Bench.twist(x, 8, "((a))", 100), 1);
        B.due("a bracket too many", Bench.twist(x, 8, "a)", 100), -1001);
    }
}
