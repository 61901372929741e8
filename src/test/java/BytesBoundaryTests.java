/**
 * Each sentence on what is reckoned from bytes that names a boundary has a test of its own (==== 2 and 3,
 * promises 19 to 27, 31).
 */
public final class BytesBoundaryTests {
    private static final Bench B = new Bench();

    public static void main(String[] args) {
        waitingTests();
        spunTests();
        nightTests();
        putsOffTests();
        cordTests();
        seenTests();
        brightestTests();
        halvesTests();
        forgivenTests();
        checkTests();
        againOnOneObject();
        B.end();
    }

    private interface Asking {
        int of(PutOffWicks wicks, int n);
    }

    /** Brings a row of bytes, asks, and sees that the tape is empty then; each is told to hold so many of them. */
    private static int ask(Asking asking, int each, int... bytes) {
        PutOffWicks x = new PutOffWicks();
        Bench.feed(x, bytes);
        int got = asking.of(x, bytes.length / each);
        B.due("the tape is empty then", x.count(6), 0);
        return got;
    }

    private static int[] row(int many, int... again) {
        int[] all = new int[many];
        for (int i = 0; i < many; i++) {
            all[i] = again[i % again.length];
        }
        return all;
    }

    // ---- 19

    private static int waiting(int what, int... twos) {
        return ask((x, n) -> x.waiting(n, what), 2, twos);
    }

    private static void waitingTests() {
        waitingOneToTwenty();
        waitingForEver();
        waitingByOthersToo();
        waitingNobody();
        waitingHowFew();
        waitingToldTwice();
        waitingAbove15();
        waitingHimself();
    }

    private static int[] ringOf(int many) {
        int[] ring = new int[2 * many];
        for (int who = 0; who < many; who++) {
            ring[2 * who] = who;
            ring[2 * who + 1] = (who + 1) % many;
        }
        return ring;
    }

    private static void waitingOneToTwenty() {
        B.of("WAITING: 1 to 20 twos of PEOPLE");
        B.due("one", waiting(0, 0, 15), 0);
        B.due("one, how few", waiting(1, 0, 15), 0);
        int[] twenty = row(40, 0, 1);
        B.due("twenty", waiting(0, twenty), 0);
        twenty[38] = 1;
        twenty[39] = 0;
        B.due("the twentieth counts", waiting(0, twenty), 3);
        B.due("how few", waiting(1, twenty), 1);
        PutOffWicks x = new PutOffWicks();
        Bench.feed(x, 0, 1, 1, 0);
        B.due("what lies behind does not", x.waiting(1, 0), 0);
    }

    private static void waitingForEver() {
        B.of("WAITING: who waits for ever (is in a ring of these)");
        for (int many = 2; many <= 16; many++) {
            B.due("a ring of " + many, waiting(0, ringOf(many)), (1 << many) - 1);
            B.due("one ends", waiting(1, ringOf(many)), 1);
        }
        B.due("who is waited for does not wait", waiting(0, 0, 1, 1, 0, 1, 2, 2, 3), 3);
        B.due("two rings", waiting(0, 0, 15, 15, 0, 7, 8, 8, 7), 1 | 1 << 15 | 3 << 7);
    }

    private static void waitingByOthersToo() {
        B.of("WAITING: (or waits, by others, too, for one that is)");
        int[] row = new int[32];
        for (int who = 1; who < 16; who++) {
            row[2 * who] = who;
            row[2 * who + 1] = who - 1;
        }
        row[0] = 0;
        row[1] = 1;
        B.due("fourteen behind a ring of two", waiting(0, row), 65535);
        B.due("one ends", waiting(1, row), 1);
        B.due("one of two he waits for", waiting(0, 5, 6, 5, 1, 1, 2, 2, 1), 1 << 5 | 6);
    }

    private static void waitingNobody() {
        B.of("WAITING: so that nobody does (nobody does)");
        int[] row = java.util.Arrays.copyOf(ringOf(16), 30);
        B.due("a row", waiting(0, row), 0);
        B.due("a row, how few", waiting(1, row), 0);
        B.due("two ways, no ring", waiting(0, 0, 1, 0, 2, 1, 3, 2, 3), 0);
        B.due("two ways, how few", waiting(1, 0, 1, 0, 2, 1, 3, 2, 3), 0);
    }

    private static void waitingHowFew() {
        B.of("WAITING: how few waits can end so that nobody does");
        B.due("one that two rings share", waiting(1, 0, 1, 1, 2, 2, 0, 1, 3, 3, 0), 1);
        B.due("two rings", waiting(1, 0, 1, 1, 0, 2, 3, 3, 2), 2);
        B.due("two rings at one of people", waiting(1, 0, 1, 1, 0, 0, 2, 2, 0), 2);
        int[] all = new int[40];
        int at = 0;
        for (int who = 0; who < 5; who++) {
            for (int whom = 0; whom < 5; whom++) {
                if (who != whom) {
                    all[at++] = who;
                    all[at++] = whom;
                }
            }
        }
        B.due("five who all wait for all", waiting(1, all), 10);
        B.due("for ever", waiting(0, all), 31);
        int[] pairs = new int[32];
        for (int i = 0; i < 8; i++) {
            pairs[4 * i] = pairs[4 * i + 3] = 2 * i;
            pairs[4 * i + 1] = pairs[4 * i + 2] = 2 * i + 1;
        }
        B.due("eight rings of two", waiting(1, pairs), 8);
        B.due("rings of three at one wait", waiting(1, 0, 1, 1, 2, 2, 0, 1, 3, 3, 0, 1, 4, 4, 0, 1, 5, 5, 0), 1);
        B.due("rings of three at one of people", waiting(1, 0, 1, 1, 2, 2, 0, 0, 3, 3, 4, 4, 0, 0, 5, 5, 6, 6, 0), 3);
        // 1 + 2 waits go across a cut of the round, and as many rings have no wait in common
        B.due("five in a round", waiting(1, round(5, 1, 2)), 3);
        B.due("ten in a round", waiting(1, round(10, 1, 2)), 3);
        B.due("ten in a round, both ways", waiting(1, round(10, 1, 9)), 10);
        // 1 + 3 waits go across a cut
        B.due("nine in a round", waiting(1, round(9, 1, 3)), 4);
        B.due("three times three who all wait for all", waiting(1, threes()), 9);
    }

    /** So many people in a round, each waits for those that sit so far from him. */
    private static int[] round(int people, int... far) {
        int[] twos = new int[2 * people * far.length];
        for (int i = 0; i < people * far.length; i++) {
            twos[2 * i] = i % people;
            twos[2 * i + 1] = (i + far[i / people]) % people;
        }
        return twos;
    }

    private static int[] threes() {
        int[] twos = new int[36];
        for (int i = 0; i < 18; i++) {
            int group = i / 6 * 3;
            twos[2 * i] = group + i % 3;
            twos[2 * i + 1] = group + (i % 3 + 1 + i % 6 / 3) % 3;
        }
        return twos;
    }

    private static void waitingToldTwice() {
        B.of("WAITING: (a two told twice is one)");
        B.due("twice", waiting(1, 0, 1, 1, 0, 0, 1, 1, 0), 1);
        B.due("ten times each", waiting(1, row(40, 0, 1, 1, 0)), 1);
        B.due("for ever", waiting(0, row(40, 0, 1, 1, 0)), 3);
    }

    private static void waitingAbove15() {
        B.of("19: (who, for whom: 0 to 15); -3: one above 15");
        B.due("15", waiting(0, 15, 14, 14, 15), 3 << 14);
        for (int above : new int[] {16, 17, 127, 128, 255}) {
            B.due(above + " waits", waiting(0, above, 1), -3);
            B.due("he waits for " + above, waiting(1, 1, above), -3);
            B.due("the last two", waiting(0, 0, 1, 1, 0, 2, above), -3);
        }
        PutOffWicks x = new PutOffWicks();
        Bench.feed(x, 0, 1, 16, 16);
        B.due("what lies behind is not asked", x.waiting(1, 0), 0);
    }

    private static void waitingHimself() {
        B.of("19: -3: himself");
        for (int who = 0; who < 16; who++) {
            B.due(who + " for himself", waiting(0, who, who), -3);
            B.due(who + " for himself, the last", waiting(1, 0, 1, who, who), -3);
        }
    }

    // ---- 20

    private static int spun(int what, int... hours) {
        return ask((x, n) -> x.spun(n, what), 2, hours);
    }

    private static void spunTests() {
        spunOneToEight();
        spunHours0To255();
        spunOneAtATime();
        spunLeastRow();
    }

    private static void spunOneToEight() {
        B.of("SPUN: 1 to 8 THINGS");
        B.due("one", spun(0, 3, 4), 7);
        B.due("one first", spun(1, 3, 4), 0);
        B.due("eight", spun(0, row(16, 1, 2)), 17);
        int[] last = row(16, 9);
        last[14] = 1;
        B.due("the eighth first", spun(1, last), 7);
        B.due("its hour and those of the other", spun(0, last), 73);
        PutOffWicks x = new PutOffWicks();
        Bench.feed(x, 3, 4, 100, 100);
        B.due("what lies behind is not spun", x.spun(1, 0), 7);
    }

    private static void spunHours0To255() {
        B.of("SPUN: so many hours (0 to 255 each)");
        B.due("none", spun(0, 0, 0), 0);
        B.due("none of eight", spun(0, row(16, 0)), 0);
        B.due("none of eight first", spun(1, row(16, 0)), 0);
        B.due("the one alone", spun(0, row(16, 255, 0)), 8 * 255);
        B.due("the other alone", spun(0, row(16, 0, 255)), 8 * 255);
        B.due("all of both", spun(0, row(16, 255)), 9 * 255);
        B.due("255 and 128", spun(0, 255, 128), 383);
    }

    private static void spunOneAtATime() {
        B.of("SPUN: both take them in one order, one at a time: the fewest hours");
        B.due("two", spun(0, 3, 2, 1, 4), 7);
        B.due("two first", spun(1, 3, 2, 1, 4), 1);
        B.due("the other way round", spun(0, 1, 4, 3, 2), 7);
        B.due("five", spun(0, 4, 5, 4, 1, 30, 4, 6, 30, 2, 3), 47);
        B.due("a long one for the other", spun(0, 1, 255, 255, 1), 257);
        int x = 1;
        for (int rows = 0; rows < 300; rows++) {
            int[] hours = new int[2 * (2 + rows % 4)];
            for (int i = 0; i < hours.length; i++) {
                x = Bench.drawn(x, 1);
                hours[i] = rows % 2 == 0 ? x / 256 % 6 : x / 256;
            }
            int[] best = {Integer.MAX_VALUE, 0};
            tryOrders(hours, 0, new int[] {0, 0, -1}, best);
            B.due("hours by all orders", spun(0, hours), best[0]);
            B.due("first by all orders", spun(1, hours), best[1]);
        }
    }

    /** Tries all that can follow, the least first; so far: hours of the one, of the other, which was first. */
    private static void tryOrders(int[] hours, int taken, int[] soFar, int[] best) {
        if (taken == (1 << hours.length / 2) - 1 && soFar[1] < best[0]) {
            best[0] = soFar[1];
            best[1] = soFar[2];
        }
        for (int k = 0; k < hours.length / 2; k++) {
            if ((taken >> k & 1) == 0) {
                int one = soFar[0] + hours[2 * k];
                int other = Math.max(one, soFar[1]) + hours[2 * k + 1];
                tryOrders(hours, taken | 1 << k, new int[] {one, other, soFar[2] < 0 ? k : soFar[2]}, best);
            }
        }
    }

    private static void spunLeastRow() {
        B.of("SPUN: which comes first (of like orders the least row)");
        B.due("two that are the same", spun(1, 4, 4, 4, 4), 0);
        // both rows take 12 hours
        B.due("two that are not", spun(1, 5, 3, 4, 3), 0);
        B.due("12 hours", spun(0, 5, 3, 4, 3), 12);
        // the row 1 0 takes 12 hours, the row 0 1 takes 13
        B.due("not alike", spun(1, 5, 3, 4, 4), 1);
        // the rows 1 2 0 and 2 1 0 take 15 hours, those that begin with 0 more
        B.due("the first of like ones behind a worse one", spun(1, 9, 1, 2, 6, 2, 6), 1);
    }

    // ---- 21

    private static int night(int hour, int... hours) {
        return ask((x, n) -> x.night(n, hour), 2, hours);
    }

    private static void nightTests() {
        nightHours();
        nightOneToSixteen();
        nightBeyond();
        nightEachHour();
        nightByNone();
        nightToNotBehindFrom();
    }

    private static void nightHours() {
        B.of("A NIGHT from 0 to an hour (1 to 255)");
        B.due("to 1", night(1, 0, 1), 1);
        B.due("to 255", night(255, 0, 255), 1);
        B.due("to 255, an hour short", night(255, 0, 254), -2);
        B.due("to 255, from 1", night(255, 1, 255), -2);
    }

    private static void nightOneToSixteen() {
        B.of("A NIGHT: 1 to 16 WICKS");
        int[] all = new int[32];
        for (int i = 0; i < 16; i++) {
            all[2 * i] = 16 * i;
            all[2 * i + 1] = Math.min(255, 16 * i + 16);
        }
        B.due("all sixteen", night(255, all), 16);
        B.due("fifteen of them", night(240, all), 15);
        B.due("one of them", night(16, all), 1);
        all[1] = 15;
        B.due("a gap of an hour", night(255, all), -2);
        PutOffWicks x = new PutOffWicks();
        Bench.feed(x, 0, 5, 5, 9);
        B.due("what lies behind does not burn", x.night(1, 9), -2);
    }

    private static void nightBeyond() {
        B.of("A NIGHT: (they may burn beyond)");
        B.due("one", night(1, 0, 255), 1);
        B.due("the last", night(9, 0, 5, 3, 200), 2);
        B.due("one that begins beyond", night(5, 0, 5, 5, 9), 1);
    }

    private static void nightEachHour() {
        B.of("A NIGHT: the fewest by which each hour of it (from one to the next) is lit");
        B.due("one ends where the next begins", night(9, 0, 5, 5, 9), 2);
        B.due("an hour between is not lit", night(9, 0, 5, 6, 9), -2);
        B.due("in any order", night(9, 5, 9, 0, 5), 2);
        B.due("the fewest", night(10, 0, 3, 0, 4, 3, 8, 4, 6, 6, 10, 8, 10), 3);
        B.due("one in another", night(10, 0, 10, 2, 5, 0, 9), 1);
        B.due("like ones", night(10, 0, 5, 0, 5, 5, 10, 5, 10), 2);
    }

    private static void nightByNone() {
        B.of("A NIGHT: -2: by none");
        B.due("dark at first", night(3, 1, 3), -2);
        B.due("dark at last", night(3, 0, 2), -2);
        B.due("dark between", night(3, 0, 1, 2, 3), -2);
        B.due("all too late", night(3, 3, 9, 4, 255), -2);
    }

    private static void nightToNotBehindFrom() {
        B.of("21: -3: to not behind from");
        B.due("the same", night(3, 5, 5), -3);
        B.due("ahead", night(3, 5, 4), -3);
        B.due("0 and 0", night(3, 0, 0), -3);
        B.due("255 and 255", night(3, 255, 255), -3);
        B.due("255 and 0", night(3, 255, 0), -3);
        B.due("one hour", night(1, 0, 1), 1);
        B.due("one that is not needed", night(3, 0, 9, 7, 7), -3);
        B.due("ahead of by none", night(9, 1, 2, 7, 7), -3);
        PutOffWicks x = new PutOffWicks();
        Bench.feed(x, 0, 9, 7, 7);
        B.due("what lies behind is not asked", x.night(1, 3), 1);
    }

    // ---- 22

    private static int putsOff(int tenths, boolean knows, int what, int... costs) {
        return ask((x, n) -> x.putsOff(n, tenths, knows, what), 1, costs);
    }

    private static void both(int tenths, int day, int... costs) {
        for (int i = 0; i < 2; i++) {
            B.due("knows " + i + ", tenths " + tenths, putsOff(tenths, i == 1, 0, costs), day);
            B.due("knows " + i + ", costs", putsOff(tenths, i == 1, 1, costs), costs[day]);
        }
    }

    private static void putsOffTests() {
        putsOffOneToSixteen();
        putsOffOnTheLast();
        putsOffTenths();
        putsOffDoesNotKnow();
        putsOffKnows();
    }

    private static void putsOffOneToSixteen() {
        B.of("ONE WHO PUTS OFF: 1 to 16 DAYS");
        both(1, 0, 255);
        both(10, 0, 0);
        both(10, 0, row(16, 7));
        both(9, 15, row(16, 7));
        PutOffWicks x = new PutOffWicks();
        Bench.feed(x, 5, 9, 1);
        B.due("what lies behind is no day", x.putsOff(2, 10, false, 0), 0);
    }

    private static void putsOffOnTheLast() {
        B.of("ONE WHO PUTS OFF: it must be DONE on the last at least");
        both(10, 2, 9, 8, 7);
        both(1, 3, 100, 100, 100, 255);
        both(5, 1, 255, 255);
    }

    private static void putsOffTenths() {
        B.of("ONE WHO PUTS OFF: a later cost counts so many tenths (1 to 10): ten times the one no more than tenths");
        for (int tenths = 1; tenths <= 10; tenths++) {
            both(tenths, 0, tenths, 10);
            both(tenths, 1, tenths + 1, 10);
            both(tenths, 0, 20 * tenths, 200);
            both(tenths, 1, 20 * tenths + 1, 200);
            both(tenths, 0, 0, 0);
            both(tenths, 1, 1, 0);
        }
        both(10, 0, 255, 255);
        both(9, 1, 230, 255);
        both(9, 0, 229, 255);
    }

    private static void putsOffDoesNotKnow() {
        B.of("one who does not know himself: the first DAY whose cost is no more than these tenths of the least");
        B.due("the last is the least", putsOff(10, false, 0, 5, 9, 4), 2);
        B.due("as little as the least", putsOff(10, false, 0, 4, 9, 4), 0);
        B.due("the second", putsOff(10, false, 0, 5, 3, 4), 1);
        B.due("he puts it off to the end", putsOff(5, false, 0, 3, 5, 8, 13), 3);
        B.due("what it costs", putsOff(5, false, 1, 3, 5, 8, 13), 13);
    }

    private static void putsOffKnows() {
        B.of("one who does: no more than these tenths of that of the DAY on which he would do it if not on this one");
        B.due("he knows", putsOff(5, true, 0, 3, 5, 8, 13), 1);
        B.due("what it costs", putsOff(5, true, 1, 3, 5, 8, 13), 5);
        // on the second day he would put it off, so the first looks at the cost of 20
        B.due("he looks beyond a cheap day", putsOff(5, true, 0, 9, 12, 20), 0);
        B.due("who does not know does not", putsOff(5, false, 0, 9, 12, 20), 2);
        B.due("just as much", putsOff(5, true, 0, 10, 11, 20), 0);
        B.due("more", putsOff(5, true, 0, 11, 11, 20), 2);
    }

    // ---- 23

    private static int cord(int many, int... lengths) {
        return ask((x, n) -> x.cord(n, many), 1, lengths);
    }

    private static void cordTests() {
        cordTwoToTwelve();
        cordOneToEight();
        cordNoWickTwice();
        cordWholeNumbers();
    }

    private static void cordTwoToTwelve() {
        B.of("A CORD: 2 to 12 WICKS of LENGTHS (bytes)");
        B.due("two", cord(1, 3, 4), 7);
        B.due("twelve", cord(1, row(12, 255)), 3060);
        B.due("twelve of 0", cord(1, row(12, 0)), 0);
        B.due("two of 0", cord(2, 0, 0), 0);
        B.due("2048", cord(1, 255, 255, 255, 255, 255, 255, 255, 255, 8), 2048);
        PutOffWicks x = new PutOffWicks();
        Bench.feed(x, 3, 4, 100);
        B.due("what lies behind is no wick", x.cord(2, 1), 7);
    }

    private static void cordOneToEight() {
        B.of("A CORD: twisted of so many (1 to 8) at every place");
        int[] want = {3060, 1530, 1020, 765, 612, 510, 437, 382};
        for (int many = 1; many <= 8; many++) {
            B.due("of " + many, cord(many, row(12, 255)), want[many - 1]);
        }
        B.due("as many as there are", cord(8, 9, 8, 7, 6, 5, 4, 3, 2), 2);
        B.due("as many, of 255", cord(2, 255, 255), 255);
    }

    private static void cordNoWickTwice() {
        B.of("A CORD: no WICK twice at one place");
        B.due("a long one", cord(2, 200, 4, 3), 7);
        B.due("a long one of two", cord(2, 255, 1), 1);
        B.due("more than there are", cord(3, 255, 255), 0);
        B.due("one more than there are", cord(8, row(7, 255)), 0);
        B.due("one without length", cord(3, 5, 5, 0), 0);
    }

    private static void cordWholeNumbers() {
        B.of("A CORD: each may be cut: the longest CORD, in whole numbers");
        B.due("nine of two", cord(2, 3, 3, 3), 4);
        B.due("three ones of two", cord(2, 1, 1, 1), 1);
        B.due("cut", cord(2, 5, 4, 3), 6);
        B.due("four ones of three", cord(3, 1, 1, 1, 1), 1);
        B.due("five ones of three", cord(3, 1, 1, 1, 1, 1), 1);
        B.due("six ones of three", cord(3, 1, 1, 1, 1, 1, 1), 2);
    }

    // ---- 24

    private static int seen(int many, int what, int... lights) {
        return ask((x, n) -> x.seen(n, many, what), 2, lights);
    }

    private static void seenTests() {
        seenOneToTwelve();
        seenAlongAShore();
        seenAtLeastSoMany();
        seenLongestRow();
    }

    private static void seenOneToTwelve() {
        B.of("SEEN: 1 to 12 lights");
        int[] all = new int[24];
        for (int i = 0; i < 12; i++) {
            all[2 * i] = 20 * i;
        }
        B.due("twelve of one place each", seen(1, 0, all), 12);
        all[23] = 255;
        B.due("the twelfth is seen everywhere", seen(1, 0, all), 256);
        B.due("from eleven places two", seen(2, 0, all), 11);
        PutOffWicks x = new PutOffWicks();
        Bench.feed(x, 10, 2, 50, 2);
        B.due("what lies behind is no light", x.seen(1, 1, 0), 5);
    }

    private static void seenAlongAShore() {
        B.of("SEEN: (where 0 to 255, how far each is seen 0 to 255); places (0 to 255)");
        B.due("its own place", seen(1, 0, 7, 0), 1);
        B.due("at the first place", seen(1, 0, 0, 0), 1);
        B.due("at the last place", seen(1, 0, 255, 0), 1);
        B.due("two places to one side", seen(1, 0, 0, 1), 2);
        B.due("two places to the other", seen(1, 0, 255, 1), 2);
        B.due("all from the first", seen(1, 0, 0, 255), 256);
        B.due("all from the last", seen(1, 0, 255, 255), 256);
        B.due("all but one", seen(1, 0, 0, 254), 255);
        B.due("all from between", seen(1, 0, 128, 128), 256);
        B.due("all but one from between", seen(1, 0, 128, 127), 255);
    }

    private static void seenAtLeastSoMany() {
        B.of("SEEN: at least so many (1 to 12)");
        B.due("two", seen(2, 0, 10, 5, 16, 3), 3);
        B.due("one", seen(1, 0, 10, 5, 16, 3), 15);
        B.due("twelve of twelve", seen(12, 0, row(24, 9, 3)), 7);
        B.due("eleven of twelve", seen(11, 0, row(24, 9, 3)), 7);
        B.due("more than there are", seen(12, 0, 7, 255, 8, 255), 0);
        B.due("one more than there are", seen(3, 0, 7, 255, 8, 255), 0);
    }

    private static void seenLongestRow() {
        B.of("SEEN: the longest row of such places (none: 0)");
        B.due("none", seen(2, 1, 7, 0), 0);
        B.due("none of more than there are", seen(12, 1, 7, 255), 0);
        B.due("one", seen(1, 1, 7, 0), 1);
        B.due("all", seen(1, 1, 0, 255), 256);
        B.due("two that meet", seen(1, 1, 10, 2, 16, 3), 12);
        B.due("two that do not", seen(1, 1, 10, 2, 17, 3), 7);
        B.due("not round the end", seen(1, 1, 0, 3, 255, 4), 5);
        B.due("to the last place", seen(1, 1, 250, 10, 20, 3), 16);
        B.due("from the first place", seen(1, 1, 5, 10, 200, 3), 16);
    }

    // ---- 25

    private static int brightest(int many, int what, int... lights) {
        return ask((x, n) -> x.brightest(n, many, what), 2, lights);
    }

    private static void brightestTests() {
        brightestSoMany();
        brightestMostPlaces();
        brightestLeastBits();
    }

    private static void brightestSoMany() {
        B.of("BRIGHTEST: of such lights so many (1 to 12, no more than there are)");
        B.due("one of one", brightest(1, 0, 7, 0), 1);
        B.due("one of one, which", brightest(1, 1, 7, 0), 1);
        B.due("twelve of twelve", brightest(12, 1, row(24, 9, 3)), 4095);
        B.due("twelve of twelve, places", brightest(12, 0, row(24, 9, 3)), 7);
        int[] last = row(24, 9, 3);
        last[23] = 4;
        B.due("the twelfth", brightest(1, 1, last), 2048);
        B.due("the twelfth, places", brightest(1, 0, last), 9);
        B.due("the twelfth and the first", brightest(2, 1, last), 2049);
        B.due("so many, though fewer would do", brightest(2, 1, 0, 255, 9, 0, 8, 0), 3);
        B.due("all of three", brightest(3, 0, 10, 2, 20, 3, 11, 2), 13);
        PutOffWicks x = new PutOffWicks();
        Bench.feed(x, 10, 2, 50, 9);
        B.due("what lies behind is no light", x.brightest(1, 1, 0), 5);
    }

    private static void brightestMostPlaces() {
        B.of("BRIGHTEST: by which at least one is seen from most places");
        B.due("one", brightest(1, 1, 10, 2, 20, 3, 11, 2), 2);
        B.due("two that are far apart", brightest(2, 1, 100, 20, 101, 19, 200, 5), 5);
        B.due("places", brightest(2, 0, 100, 20, 101, 19, 200, 5), 52);
        B.due("what is beyond the shore is no place", brightest(1, 1, 0, 9, 100, 5), 2);
        B.due("all places", brightest(1, 0, 255, 255, 3, 3), 256);
        B.due("all places of two", brightest(2, 0, 63, 64, 191, 64, 128, 100), 256);
    }

    private static void brightestLeastBits() {
        B.of("BRIGHTEST: which (least bits)");
        B.due("one of like ones", brightest(1, 1, 50, 5, 100, 5), 1);
        B.due("two of like ones", brightest(2, 1, 50, 5, 100, 5, 150, 5), 3);
        B.due("six of twelve", brightest(6, 1, row(24, 9, 3)), 63);
        B.due("the light that must be and the lowest", brightest(2, 1, 50, 5, 100, 5, 150, 9), 5);
        B.due("the last alone", brightest(1, 1, 50, 5, 100, 5, 150, 6), 4);
    }

    // ---- 26

    private static int halves(int what, int... lights) {
        return ask((x, n) -> x.halves(n, what), 1, lights);
    }

    private static void cut(int first, int differ, int... lights) {
        B.due("how many on the first side", halves(0, lights), first);
        B.due("by how much", halves(1, lights), differ);
    }

    private static void halvesTests() {
        B.of("HALVES: 2 to 16 lights (bytes) in their order");
        cut(1, 8, 1, 9);
        cut(1, 0, 255, 255);
        cut(8, 0, row(16, 255));
        cut(8, 0, row(16, 1));
        cut(2, 0, 3, 1, 2, 2);
        PutOffWicks x = new PutOffWicks();
        Bench.feed(x, 1, 1, 100);
        B.due("what lies behind is no light", x.halves(2, 1), 0);
        B.of("HALVES: (at least one on each side)");
        cut(1, 9, 9, 0);
        cut(1, 9, 0, 9);
        cut(1, 9, 0, 0, 9);
        cut(1, 9, 9, 0, 0);
        cut(15, 240, onesThen255());
        B.of("HALVES: where the two sides differ least (of like ones the fewest)");
        cut(1, 0, 0, 0, 0);
        cut(1, 0, 5, 0, 0, 5);
        cut(2, 2, 1, 1, 2, 2);
        cut(1, 0, 2, 0, 1, 1);
        cut(1, 1, 1, 1, 1);
        B.of("HALVES: by how much");
        cut(1, 255, 255, 0);
        cut(1, 255, 0, 255);
        cut(1, 127, 128, 255);
    }

    private static int[] onesThen255() {
        int[] all = row(16, 1);
        all[15] = 255;
        return all;
    }

    // ---- 27

    private static int forgiven(int... twos) {
        return ask((x, n) -> x.forgiven(n), 2, twos);
    }

    private static void forgivenTests() {
        B.of("FORGIVEN: of 1 to 16 THINGS (cost, worth: bytes)");
        B.due("one", forgiven(0, 0), 1);
        B.due("one that costs all", forgiven(255, 0), 1);
        int[] stairs = new int[32];
        for (int i = 0; i < 16; i++) {
            stairs[2 * i] = 17 * i;
            stairs[2 * i + 1] = 17 * i;
        }
        B.due("sixteen", forgiven(stairs), 16);
        stairs[31] = 254;
        stairs[29] = 254;
        B.due("the sixteenth is worth no more", forgiven(stairs), 15);
        PutOffWicks x = new PutOffWicks();
        Bench.feed(x, 5, 5, 1, 9);
        B.due("what lies behind does not count", x.forgiven(1), 1);
        B.of("FORGIVEN: no other one costs no more and is worth no less, one of both truly less or more");
        B.due("like ones", forgiven(1, 1, 1, 1), 2);
        B.due("sixteen like ones", forgiven(row(32, 255, 0)), 16);
        B.due("costs less", forgiven(2, 1, 1, 1), 1);
        B.due("is worth more", forgiven(1, 1, 1, 2), 1);
        B.due("both", forgiven(2, 1, 1, 2), 1);
        B.due("costs less, is worth less", forgiven(2, 2, 1, 1), 2);
        B.due("costs a bit more, is worth much more", forgiven(1, 1, 2, 9), 2);
        B.due("costs much less, is worth a bit less", forgiven(9, 9, 1, 8), 2);
        B.due("bytes above 127", forgiven(255, 127, 128, 255), 1);
        B.due("0 and 255", forgiven(0, 255, 255, 0, 0, 0, 255, 255), 1);
    }

    // ---- 31

    private static int check(PutOffWicks x, int... bytes) {
        return x.check(Bench.feed(x, bytes));
    }

    private static void checkTests() {
        checkModulo256();
        checkFirstWrong();
        checkNotThere();
        checkZeroTo24();
        checkNoSuchN();
        checkNotSoMany();
    }

    private static void checkModulo256() {
        B.of("CHECK: LENGTHS of THINGS modulo 256");
        PutOffWicks x = Bench.with("a0;a1;a255;a256;a257;a511;a512;a767;a768;a999");
        B.due("right", check(x, 0, 1, 255, 0, 1, 255, 0, 255, 0, 231), -1);
        B.due("empty then", x.count(6), 0);
    }

    private static void checkFirstWrong() {
        B.of("CHECK: right, or the first that is not so");
        PutOffWicks x = Bench.with("a7;a8;a9");
        B.due("right", check(x, 7, 8, 9), -1);
        B.due("the first", check(x, 6, 7, 9), 0);
        B.due("the second", check(x, 7, 7, 7), 1);
        B.due("the last", check(x, 7, 8, 10), 2);
        B.due("empty then", x.count(6), 0);
    }

    private static void checkNotThere() {
        B.of("31: (of THINGS there are not 0)");
        PutOffWicks x = Bench.with("a7;a8;a9");
        B.due("0", check(x, 7, 8, 9, 0, 0), -1);
        B.due("not 0", check(x, 7, 8, 9, 0, 1), 4);
        int[] all = row(24, 0);
        B.due("24 of none", check(new PutOffWicks(), all), -1);
        all[23] = 255;
        B.due("the last of none", check(new PutOffWicks(), all), 23);
        Bench.parish(x, "a7");
        B.due("those of the parish before are there no more", check(x, 7, 8), 1);
        B.due("0 in their place", check(x, 7, 0, 0), -1);
    }

    private static void checkZeroTo24() {
        B.of("31: by the first n bytes of the tape (0 to 24; empty then)");
        PutOffWicks x = Bench.with("a7;a8;a9");
        Bench.fill(x, 1, 99);
        B.due("none asked", x.check(0), -1);
        B.due("empty then", x.count(6), 0);
        B.due("none of none", x.check(0), -1);
        Bench.feed(x, 7, 99);
        B.due("the first alone", x.check(1), -1);
        PutOffWicks all = Bench.with(Bench.times("a5", 24, ";"));
        B.due("24", check(all, row(24, 5)), -1);
        int[] wrong = row(24, 5);
        wrong[23] = 4;
        B.due("the last of 24", check(all, wrong), 23);
    }

    private static void checkNoSuchN() {
        B.of("31: -2: no such n");
        PutOffWicks x = Bench.with("a7;a8;a9");
        Bench.fill(x, 13, 7);
        String before = Bench.look(x);
        for (int n : new int[] {-1, 25, 26, 260, 261, Integer.MIN_VALUE, Integer.MAX_VALUE}) {
            B.due("check(" + n + ")", x.check(n), -2);
            B.due("behind it", Bench.look(x), before);
        }
        B.due("the tape stays", x.check(24), 1);
    }

    private static void checkNotSoMany() {
        B.of("31: -2: it has not so many (the tape stays)");
        PutOffWicks x = new PutOffWicks();
        B.due("of none", x.check(1), -2);
        Bench.fill(x, 1, 0);
        B.due("21 of 20", x.check(21), -2);
        B.due("the tape stays", x.count(6), 20);
        B.due("20 of 20", x.check(20), -1);
    }

    // ---- rows that are used again

    private static int again(PutOffWicks x, Asking asking, int each, int... bytes) {
        Bench.feed(x, bytes);
        return asking.of(x, bytes.length / each);
    }

    private static void againOnOneObject() {
        B.of("(empty then): of an earlier call's bytes nothing is left");
        PutOffWicks x = new PutOffWicks();
        for (int i = 0; i < 2; i++) {
            B.due("waiting, all", again(x, (w, n) -> w.waiting(n, 1), 2, round(10, 1, 9)), 10);
            B.due("waiting, one", again(x, (w, n) -> w.waiting(n, 1), 2, 0, 1), 0);
            B.due("waiting, wrong", again(x, (w, n) -> w.waiting(n, 0), 2, 0, 1, 1, 0, 2, 2), -3);
            B.due("waiting, one more", again(x, (w, n) -> w.waiting(n, 0), 2, 1, 0), 0);
            B.due("waiting, a round", again(x, (w, n) -> w.waiting(n, 1), 2, round(5, 1, 2)), 3);
            B.due("brightest, all", again(x, (w, n) -> w.brightest(n, n, 0), 2, row(24, 128, 255)), 256);
            B.due("brightest, one", again(x, (w, n) -> w.brightest(n, 1, 0), 2, 7, 0), 1);
            B.due("seen, all", again(x, (w, n) -> w.seen(n, 12, 1), 2, row(24, 128, 255)), 256);
            B.due("seen, one", again(x, (w, n) -> w.seen(n, 1, 0), 2, 7, 0), 1);
            B.due("spun, all", again(x, (w, n) -> w.spun(n, 0), 2, row(16, 255)), 9 * 255);
            B.due("spun, one", again(x, (w, n) -> w.spun(n, 0), 2, 1, 1), 2);
            B.due("night, all", again(x, (w, n) -> w.night(n, 255), 2, row(32, 0, 255)), 1);
            B.due("night, one", again(x, (w, n) -> w.night(n, 2), 2, 0, 1), -2);
            B.due("cord, all", again(x, (w, n) -> w.cord(n, 1), 1, row(12, 255)), 3060);
            B.due("cord, two", again(x, (w, n) -> w.cord(n, 1), 1, 1, 1), 2);
            B.due("halves, all", again(x, (w, n) -> w.halves(n, 0), 1, row(16, 255)), 8);
            B.due("halves, two", again(x, (w, n) -> w.halves(n, 1), 1, 5, 5), 0);
            B.due("putsOff, all", again(x, (w, n) -> w.putsOff(n, 9, true, 1), 1, row(16, 255)), 255);
            B.due("putsOff, one", again(x, (w, n) -> w.putsOff(n, 9, true, 1), 1, 3), 3);
            B.due("forgiven, all", again(x, (w, n) -> w.forgiven(n), 2, row(32, 0, 255)), 16);
            B.due("forgiven, one", again(x, (w, n) -> w.forgiven(n), 2, 255, 0), 1);
        }
    }
}
