import java.util.Arrays;

/** A parish whose wicks are spun of what was put off, with its law, its days and its reckonings. */
public final class PutOffWicks {
    public static final int NONE = -1;

    /** Told where the question is right, but there is no such thing, day or way. */
    private static final int NOT_FOUND = -2;
    private static final int WRONG_BYTES = -3;
    private static final int TOO_MANY = -4;

    private static final int MOST_THINGS = 24;
    private static final int PEOPLE = 16;
    private static final int MOST_LENGTH = 999;
    private static final int LAST_DAY = 9999;
    private static final int MOST_DAYS_A_CALL = 100;
    private static final int MOST_ORDERED = 12;

    private static final int MOST_RULES = 16;
    private static final int MOST_OPEN = 6;
    private static final int LAW_BYTES = 240;
    private static final int PARISH_BYTES = 200;
    private static final int TWIST_BYTES = 80;

    private final Tape tape = new Tape();
    private final Reading reading = new Reading(tape);
    private final Parish now = new Parish();
    private final Parish kept = new Parish();
    private final Parish trial = new Parish();
    private final ParishReader parishReader = new ParishReader(reading);
    private final Law ruling = new Law(reading);
    private final Law lawDraft = new Law(reading);
    private final Almanac almanac = new Almanac(new Reckoner(ruling, now));
    private final Twist twisting = new Twist(reading);
    private final Waits waits = new Waits(tape);
    private final Shore shore = new Shore(tape);
    private final Rows rows = new Rows(tape);
    private boolean wasKept = false;

    public PutOffWicks() {
        now.x = 1;
    }

    public boolean lit(int k, boolean is) {
        if (!now.has(k) || now.isDone(k) || (is && now.length[k] == 0)) {
            return false;
        }
        now.putLight(k, is);
        return true;
    }

    public int feed(int a, int b, int c, int d, int e) {
        if (!tape.hasRoom()) {
            return NONE;
        }
        tape.put(a);
        tape.put(b);
        tape.put(c);
        tape.put(d);
        tape.put(e);
        return tape.size;
    }

    public int law(int n) {
        if (!within(n, 1, LAW_BYTES) || !tape.take(n)) {
            return NONE;
        }
        int fault = lawDraft.read();
        if (fault != 0) {
            return fault;
        }
        ruling.copyFrom(lawDraft);
        return ruling.rules;
    }

    public int parish(int n) {
        if (!within(n, 1, PARISH_BYTES) || !tape.take(n)) {
            return NONE;
        }
        int fault = parishReader.read();
        if (fault != 0) {
            return fault;
        }
        now.beginAs(parishReader.draft);
        return now.things;
    }

    public int days(int n) {
        if (!within(n, 1, MOST_DAYS_A_CALL)) {
            return NONE;
        }
        return almanac.pass(now, n);
    }

    public int tried(int n, int what) {
        boolean ofAll = within(what, 0, 3);
        boolean ofLength = now.has(what - 10);
        boolean ofDays = now.has(what - 40);
        if (!within(n, 1, MOST_DAYS_A_CALL) || !(ofAll || ofLength || ofDays)) {
            return NONE;
        }
        trial.copyFrom(now);
        int done = almanac.pass(trial, n);
        if (ofLength) {
            return trial.length[what - 10];
        }
        if (ofDays) {
            return trial.putOff[what - 40];
        }
        switch (what) {
            case 0: return done;
            case 1: return trial.guttered;
            case 2: return trial.litBits;
            default: return trial.doneBits;
        }
    }

    public int thingIs(int k, int what) {
        if (!now.has(k)) {
            return NONE;
        }
        switch (what) {
            case 0: return now.owner[k];
            case 1: return now.length[k];
            case 2: return now.isLit(k) ? 1 : 0;
            case 3: return now.putOff[k];
            case 4: return now.isDone(k) ? 1 : 0;
            case 5: return now.waitsFor[k];
            default: return NONE;
        }
    }

    public int byWhen(int k, int n) {
        if (!now.has(k) || !within(n, 1, MOST_DAYS_A_CALL)) {
            return NONE;
        }
        trial.copyFrom(now);
        int behind = 0;
        while (behind < n && !trial.isDone(k)) {
            almanac.pass(trial, 1);
            behind++;
        }
        return trial.isDone(k) ? behind : NOT_FOUND;
    }

    public int dark(int n) {
        if (!within(n, 1, MOST_DAYS_A_CALL)) {
            return NONE;
        }
        trial.copyFrom(now);
        int behind = 0;
        while (behind < n && trial.litBits != 0) {
            almanac.pass(trial, 1);
            behind++;
        }
        return trial.litBits == 0 ? behind : NOT_FOUND;
    }

    public int pride(int what) {
        if (!within(what, 0, 1)) {
            return NONE;
        }
        int who = now.proudest();
        if (what == 0) {
            return who;
        }
        return who < 0 ? 0 : now.putOffBy(who);
    }

    public int oldest() {
        int found = NOT_FOUND;
        for (int k = 0; k < now.things; k++) {
            if (!now.isDone(k) && (found < 0 || now.putOff[k] > now.putOff[found])) {
                found = k;
            }
        }
        return found;
    }

    public int chain(int k) {
        if (!now.has(k)) {
            return NONE;
        }
        int many = 0;
        int at = k;
        for (int steps = 0; steps < MOST_THINGS && now.has(at); steps++) {
            many++;
            at = now.waitsFor[at];
        }
        return many;
    }

    public int orders() {
        return now.ordersLeft();
    }

    public int light(int p) {
        if (!within(p, 0, PEOPLE)) {
            return NONE;
        }
        return now.lightOf(p);
    }

    public int worstNews(int what) {
        if (!within(what, 0, 1)) {
            return NONE;
        }
        int who = now.brightestOwner();
        if (what == 0) {
            return who;
        }
        return who < 0 ? 0 : now.lightOf(who);
    }

    public int median() {
        return now.middlePutOff();
    }

    public int twist(int strands, int n, int what) {
        if (!within(strands, 2, 8) || !within(n, 1, TWIST_BYTES)) {
            return NONE;
        }
        if (!(within(what, 0, strands - 1) || within(what, 100, 103)) || !tape.take(n)) {
            return NONE;
        }
        int fault = twisting.read(strands);
        if (fault != 0) {
            return fault;
        }
        switch (what) {
            case 100: return twisting.turns;
            case 101: return twisting.oversLessUnders();
            case 102: return twisting.turnsLeft();
            case 103: return twisting.timesTillHome(strands);
            default: return twisting.comesOut(what);
        }
    }

    public int waiting(int n, int what) {
        if (!within(n, 1, 20) || !within(what, 0, 1) || !tape.take(2 * n)) {
            return NONE;
        }
        if (!waits.read(n)) {
            return WRONG_BYTES;
        }
        return what == 0 ? waits.forEver() : waits.fewestToEnd();
    }

    public int spun(int n, int what) {
        if (!within(n, 1, 8) || !within(what, 0, 1) || !tape.take(2 * n)) {
            return NONE;
        }
        int first = rows.bestFirst(n);
        return what == 0 ? rows.hoursBehind(first, n) : first;
    }

    public int night(int n, int hour) {
        if (!within(n, 1, 16) || !within(hour, 1, 255) || !tape.take(2 * n)) {
            return NONE;
        }
        return rows.fewestWicks(n, hour);
    }

    public int putsOff(int n, int tenths, boolean knows, int what) {
        if (!within(n, 1, 16) || !within(tenths, 1, 10) || !within(what, 0, 1) || !tape.take(n)) {
            return NONE;
        }
        int day = knows ? rows.dayIfKnowing(n, tenths) : rows.dayIfNotKnowing(n, tenths);
        return what == 0 ? day : tape.at(day);
    }

    public int cord(int n, int many) {
        if (!within(n, 2, 12) || !within(many, 1, 8) || !tape.take(n)) {
            return NONE;
        }
        return rows.longestCord(n, many);
    }

    public int seen(int n, int many, int what) {
        if (!within(n, 1, 12) || !within(many, 1, 12) || !within(what, 0, 1) || !tape.take(2 * n)) {
            return NONE;
        }
        return what == 0 ? shore.placesSeeing(n, many) : shore.longestRow(n, many);
    }

    public int brightest(int n, int many, int what) {
        if (!within(n, 1, 12) || !within(many, 1, n) || !within(what, 0, 1) || !tape.take(2 * n)) {
            return NONE;
        }
        int bits = shore.bestLights(n, many);
        return what == 0 ? shore.placesOf(bits, n) : bits;
    }

    public int halves(int n, int what) {
        if (!within(n, 2, 16) || !within(what, 0, 1) || !tape.take(n)) {
            return NONE;
        }
        int cut = rows.evenestCut(n);
        return what == 0 ? cut : rows.difference(n, cut);
    }

    public int forgiven(int n) {
        if (!within(n, 1, 16) || !tape.take(2 * n)) {
            return NONE;
        }
        return rows.unbeaten(n);
    }

    public boolean seed(int x) {
        if (!within(x, 0, 65535)) {
            return false;
        }
        now.x = x;
        return true;
    }

    public int keep() {
        kept.copyFrom(now);
        wasKept = true;
        return now.day;
    }

    public boolean undo() {
        if (!wasKept) {
            return false;
        }
        now.comeBackTo(kept);
        return true;
    }

    public int check(int n) {
        if (!within(n, 0, MOST_THINGS) || !tape.take(n)) {
            return NOT_FOUND;
        }
        for (int k = 0; k < n; k++) {
            int due = now.has(k) ? now.length[k] % 256 : 0;
            if (tape.at(k) != due) {
                return k;
            }
        }
        return NONE;
    }

    public int count(int what) {
        switch (what) {
            case 0: return now.day;
            case 1: return now.things;
            case 2: return now.litBits;
            case 3: return now.doneBits;
            case 4: return now.guttered;
            case 5: return ruling.rules;
            case 6: return tape.size;
            case 7: return now.x;
            case 8: return now.ownersLeft();
            default: return NONE;
        }
    }

    private static boolean within(int value, int least, int most) {
        return value >= least && value <= most;
    }

    /** The bytes fed; what a call takes off it stays readable until the next feed. */
    private static final class Tape {
        static final int END = -1;
        private static final int MOST_BYTES = 260;
        private static final int BYTES_A_FEED = 20;

        private final int[] bytes = new int[MOST_BYTES];
        private int taken = 0;
        int size = 0;

        boolean hasRoom() {
            return size + BYTES_A_FEED <= MOST_BYTES;
        }

        void put(int four) {
            for (int shift = 24; shift >= 0 && size < MOST_BYTES; shift -= 8) {
                bytes[size] = (four >>> shift) & 255;
                size++;
            }
        }

        boolean take(int n) {
            if (n < 0 || n > size) {
                return false;
            }
            taken = n;
            size = 0;
            return true;
        }

        int at(int i) {
            return i >= 0 && i < taken && i < MOST_BYTES ? bytes[i] : END;
        }
    }

    /** A place in the text that was taken off the tape, and the first fault found there. */
    private static final class Reading {
        private final Tape text;
        int at = 0;
        int fault = 0;

        Reading(Tape text) {
            this.text = text;
        }

        void begin() {
            at = 0;
            fault = 0;
        }

        int sign() {
            return text.at(at);
        }

        boolean failed() {
            return fault != 0;
        }

        void fail(int number, int place) {
            if (fault == 0) {
                fault = -1000 * number - place;
            }
        }

        boolean takes(int sign) {
            if (fault != 0 || text.at(at) != sign) {
                return false;
            }
            at++;
            return true;
        }

        void needs(int sign) {
            if (text.at(at) != sign) {
                fail(1, at);
            } else if (fault == 0) {
                at++;
            }
        }

        /** Whether another part follows behind a semicolon; anything but that or the end is a fault. */
        boolean goesOn() {
            if (fault != 0 || text.at(at) == Tape.END) {
                return false;
            }
            needs(';');
            return fault == 0;
        }

        int number(int mostDigits) {
            if (fault != 0) {
                return 0;
            }
            int value = 0;
            int digits = 0;
            while (digits < mostDigits && isDigit(text.at(at))) {
                value = 10 * value + text.at(at) - '0';
                at++;
                digits++;
            }
            if (digits == 0) {
                fail(1, at);
            } else if (isDigit(text.at(at))) {
                fail(2, at);
            }
            return value;
        }

        static boolean isDigit(int sign) {
            return sign >= '0' && sign <= '9';
        }
    }

    /** The things, and all that days change. */
    private static final class Parish {
        final int[] owner = new int[MOST_THINGS];
        final int[] waitsFor = new int[MOST_THINGS];
        final int[] length = new int[MOST_THINGS];
        final int[] putOff = new int[MOST_THINGS];
        int litBits = 0;
        int doneBits = 0;
        int things = 0;
        int guttered = 0;
        int day = 0;
        int x = 0;

        boolean has(int k) {
            return k >= 0 && k < things && k < MOST_THINGS;
        }

        boolean isLit(int k) {
            return (litBits >>> k & 1) != 0;
        }

        boolean isDone(int k) {
            return (doneBits >>> k & 1) != 0;
        }

        void putLight(int k, boolean is) {
            litBits = is ? litBits | 1 << k : litBits & ~(1 << k);
        }

        void copyFrom(Parish other) {
            System.arraycopy(other.owner, 0, owner, 0, MOST_THINGS);
            System.arraycopy(other.waitsFor, 0, waitsFor, 0, MOST_THINGS);
            System.arraycopy(other.length, 0, length, 0, MOST_THINGS);
            System.arraycopy(other.putOff, 0, putOff, 0, MOST_THINGS);
            litBits = other.litBits;
            doneBits = other.doneBits;
            things = other.things;
            guttered = other.guttered;
            day = other.day;
            x = other.x;
        }

        void beginAs(Parish draft) {
            int dayThatStays = day;
            int drawThatStays = x;
            copyFrom(draft);
            day = dayThatStays;
            x = drawThatStays;
        }

        /** Whose the things are and what they wait for is not kept, so it stays. */
        void comeBackTo(Parish other) {
            int many = Math.min(things, other.things);
            for (int k = 0; k < many && k < MOST_THINGS; k++) {
                length[k] = other.length[k];
                putOff[k] = other.putOff[k];
            }
            int back = (1 << many) - 1;
            litBits = (litBits & ~back) | (other.litBits & back);
            doneBits = (doneBits & ~back) | (other.doneBits & back);
            guttered = other.guttered;
            day = other.day;
            x = other.x;
        }

        int draw() {
            x = (25173 * x + 13849) & 65535;
            return x % 10;
        }

        /** What it waits for is done, or it waits for nothing. */
        boolean isFree(int k) {
            return !has(waitsFor[k]) || isDone(waitsFor[k]);
        }

        void burn(int k, int much) {
            length[k] = Math.max(0, length[k] - much);
            if (length[k] == 0) {
                putLight(k, false);
            }
        }

        void finish(int k) {
            doneBits |= 1 << k;
            if (isLit(k)) {
                guttered++;
                putLight(k, false);
            }
        }

        void putItOff(int k) {
            putOff[k] = Math.min(LAST_DAY, putOff[k] + 1);
            if (!isLit(k)) {
                length[k] = Math.min(MOST_LENGTH, length[k] + 1);
            }
        }

        int leftOf(int who) {
            int many = 0;
            for (int k = 0; k < things && k < MOST_THINGS; k++) {
                if (owner[k] == who && !isDone(k)) {
                    many++;
                }
            }
            return many;
        }

        int waitersFor(int thing) {
            int many = 0;
            for (int k = 0; k < things && k < MOST_THINGS; k++) {
                if (waitsFor[k] == thing) {
                    many++;
                }
            }
            return many;
        }

        int ownersLeft() {
            int bits = 0;
            for (int k = 0; k < things && k < MOST_THINGS; k++) {
                if (!isDone(k)) {
                    bits |= 1 << owner[k];
                }
            }
            return bits;
        }

        int putOffBy(int who) {
            int sum = 0;
            for (int k = 0; k < things && k < MOST_THINGS; k++) {
                if (owner[k] == who && !isDone(k)) {
                    sum += putOff[k];
                }
            }
            return sum;
        }

        int proudest() {
            int left = ownersLeft();
            int found = NOT_FOUND;
            int most = -1;
            for (int who = 0; who < PEOPLE; who++) {
                int sum = putOffBy(who);
                if ((left >>> who & 1) != 0 && sum > most) {
                    found = who;
                    most = sum;
                }
            }
            return found;
        }

        /** Of all if who is PEOPLE. */
        int lightOf(int who) {
            int sum = 0;
            for (int k = 0; k < things && k < MOST_THINGS; k++) {
                if (isLit(k) && (who == PEOPLE || owner[k] == who)) {
                    sum += length[k];
                }
            }
            return sum;
        }

        int brightestOwner() {
            int found = NOT_FOUND;
            int most = 0;
            for (int who = 0; who < PEOPLE; who++) {
                int sum = lightOf(who);
                if (sum > most) {
                    found = who;
                    most = sum;
                }
            }
            return found;
        }

        /** The middle one is told by how many lie below it: no row needs to be sorted. */
        int middlePutOff() {
            int middle = (things - Integer.bitCount(doneBits) - 1) / 2;
            for (int k = 0; k < things && k < MOST_THINGS; k++) {
                if (!isDone(k)) {
                    int below = leftPutOffUnder(putOff[k]);
                    int notAbove = leftPutOffUnder(putOff[k] + 1);
                    if (below <= middle && middle < notAbove) {
                        return putOff[k];
                    }
                }
            }
            return NOT_FOUND;
        }

        private int leftPutOffUnder(int bound) {
            int many = 0;
            for (int k = 0; k < things && k < MOST_THINGS; k++) {
                if (!isDone(k) && putOff[k] < bound) {
                    many++;
                }
            }
            return many;
        }

        /**
         * Each thing waits for one other at most, so those left are a forest: of all n! orders
         * one in s is right at each thing that s of them (it, too) need.
         */
        int ordersLeft() {
            int left = things - Integer.bitCount(doneBits);
            if (left > MOST_ORDERED) {
                return TOO_MANY;
            }
            long all = 1;
            for (int i = 2; i <= left; i++) {
                all *= i;
            }
            long share = 1;
            for (int k = 0; k < things && k < MOST_THINGS; k++) {
                if (!isDone(k)) {
                    share *= leftThatNeed(k);
                }
            }
            return share == 0 ? 1 : (int) (all / share);
        }

        /** A thing that is done needs no other: who waits for it is free. */
        private int leftThatNeed(int thing) {
            int need = 1 << thing;
            for (int k = thing + 1; k < things && k < MOST_THINGS; k++) {
                boolean waits = has(waitsFor[k]) && (need >>> waitsFor[k] & 1) != 0;
                if (waits && !isDone(k)) {
                    need |= 1 << k;
                }
            }
            return Integer.bitCount(need);
        }
    }

    /** Reads a parish from the tape into a draft, so that a fault leaves the one before as it is. */
    private static final class ParishReader {
        private final Reading reading;
        final Parish draft = new Parish();

        ParishReader(Reading reading) {
            this.reading = reading;
        }

        int read() {
            reading.begin();
            draft.litBits = 0;
            draft.things = 0;
            boolean more = true;
            for (int k = 0; k <= MOST_THINGS && more; k++) {
                readLine(k);
                more = reading.goesOn();
            }
            return reading.fault;
        }

        private void readLine(int k) {
            int letter = reading.sign();
            if (letter < 'a' || letter > 'p') {
                reading.fail(1, reading.at);
                return;
            }
            if (k >= MOST_THINGS) {
                reading.fail(4, reading.at);
                return;
            }
            reading.at++;
            int length = reading.number(3);
            boolean star = reading.takes('*');
            int other = reading.takes('<') ? readOther(k) : NOT_FOUND;
            draft.owner[k] = letter - 'a';
            draft.length[k] = length;
            draft.putLight(k, star && length > 0);
            draft.waitsFor[k] = other;
            draft.things = k + 1;
        }

        private int readOther(int k) {
            int place = reading.at;
            int other = reading.number(2);
            if (other >= k) {
                reading.fail(3, place);
            }
            return other;
        }
    }

    /** Rules as steps for a machine with a stack: of each the steps of its E, then of its C. */
    private static final class Law {
        static final int NUMBER = 0;
        static final int FACT = 1;
        static final int NOT = 2;
        static final int SKIP_IF = 3;
        static final int SKIP_UNLESS = 4;
        /** Every step comes of a byte of its own in the text, so there is room for all. */
        static final int MOST_STEPS = LAW_BYTES;

        private final Reading reading;
        final int[] steps = new int[MOST_STEPS];
        final int[] details = new int[MOST_STEPS];
        final int[] letter = new int[MOST_RULES];
        final int[] valueAt = new int[MOST_RULES];
        final int[] holdsAt = new int[MOST_RULES];
        final int[] endAt = new int[MOST_RULES];
        int size = 0;
        int rules = 0;

        Law(Reading reading) {
            this.reading = reading;
        }

        void copyFrom(Law other) {
            System.arraycopy(other.steps, 0, steps, 0, MOST_STEPS);
            System.arraycopy(other.details, 0, details, 0, MOST_STEPS);
            System.arraycopy(other.letter, 0, letter, 0, MOST_RULES);
            System.arraycopy(other.valueAt, 0, valueAt, 0, MOST_RULES);
            System.arraycopy(other.holdsAt, 0, holdsAt, 0, MOST_RULES);
            System.arraycopy(other.endAt, 0, endAt, 0, MOST_RULES);
            size = other.size;
            rules = other.rules;
        }

        int read() {
            reading.begin();
            size = 0;
            rules = 0;
            boolean more = true;
            for (int r = 0; r <= MOST_RULES && more; r++) {
                int sign = reading.sign();
                if (sign != 'd' && sign != 'b' && sign != 'x') {
                    reading.fail(1, reading.at);
                } else if (r >= MOST_RULES) {
                    reading.fail(4, reading.at);
                } else {
                    reading.at++;
                    letter[r] = sign;
                    valueAt[r] = size;
                    if (sign == 'x') {
                        // so that a rule of x can be asked like the others
                        add(NUMBER, 1);
                    } else {
                        readValue(0);
                    }
                    holdsAt[r] = size;
                    reading.needs('(');
                    readCondition(1);
                    reading.needs(')');
                    endAt[r] = size;
                    rules = r + 1;
                }
                more = reading.goesOn();
            }
            return reading.fault;
        }

        /** A skip leaves its answer on the stack, so that it may land on another skip. */
        private void readCondition(int open) {
            int part = NONE;
            int test = NONE;
            boolean more = true;
            for (int tests = 0; tests < LAW_BYTES && more; tests++) {
                readTest(open);
                land(test);
                test = NONE;
                more = false;
                if (reading.takes('&')) {
                    test = add(SKIP_UNLESS, 0);
                    more = true;
                } else {
                    land(part);
                    part = NONE;
                    if (reading.takes('|')) {
                        part = add(SKIP_IF, 0);
                        more = true;
                    }
                }
            }
        }

        private void readTest(int open) {
            int sign = reading.sign();
            if (reading.fault != 0) {
                return;
            }
            if (sign == '!') {
                if (opens(open)) {
                    readTest(open + 1);
                    add(NOT, 0);
                }
            } else if (sign == '(') {
                if (opens(open)) {
                    readCondition(open + 1);
                    reading.needs(')');
                }
            } else {
                readValue(open);
                int compares = reading.sign();
                if (compares == '<' || compares == '>') {
                    reading.needs(compares);
                } else {
                    reading.needs('=');
                }
                readValue(open);
                add(compares, 0);
            }
        }

        private void readValue(int open) {
            int sum = 0;
            int product = 0;
            boolean more = true;
            for (int factors = 0; factors < LAW_BYTES && more; factors++) {
                readFactor(open);
                if (product != 0) {
                    add(product, 0);
                }
                int sign = reading.sign();
                boolean times = sign == '*' || sign == '/' || sign == '%';
                boolean plus = sign == '+' || sign == '-';
                product = times ? sign : 0;
                if (!times) {
                    if (sum != 0) {
                        add(sum, 0);
                    }
                    sum = plus ? sign : 0;
                }
                more = (times || plus) && reading.takes(sign);
            }
        }

        private void readFactor(int open) {
            int sign = reading.sign();
            if (reading.fault != 0) {
                return;
            }
            if (sign == '[') {
                if (opens(open)) {
                    readValue(open + 1);
                    reading.needs(']');
                }
            } else if (Reading.isDigit(sign)) {
                add(NUMBER, reading.number(5));
            } else if (isFact(sign)) {
                reading.at++;
                add(FACT, sign);
            } else {
                reading.fail(1, reading.at);
            }
        }

        /** Goes in behind a ( [ or !, unless too many are open. */
        private boolean opens(int open) {
            if (open >= MOST_OPEN) {
                reading.fail(5, reading.at);
                return false;
            }
            reading.at++;
            return true;
        }

        private static boolean isFact(int sign) {
            switch (sign) {
                case 'k':
                case 'p':
                case 'n':
                case 'l':
                case 'i':
                case 'm':
                case 'o':
                case 't':
                case 'w':
                    return true;
                default:
                    return false;
            }
        }

        /** Where the step stands. */
        private int add(int step, int detail) {
            if (size >= MOST_STEPS) {
                return NONE;
            }
            steps[size] = step;
            details[size] = detail;
            size++;
            return size - 1;
        }

        /** Lets a skip, if there is one, end here. */
        private void land(int skip) {
            if (skip >= 0 && skip < size) {
                details[skip] = size;
            }
        }
    }

    /** Asks the law about one thing of a parish, as it is then. */
    private static final class Reckoner {
        /** Far above what six open brackets, each with a few values that wait, can need. */
        private static final int STACK = 64;

        private final Law law;
        private final int[] stack = new int[STACK];
        private int top = 0;
        private boolean refused = false;
        private Parish parish;
        private int thing = 0;
        private int drawn = 0;

        Reckoner(Law law, Parish parish) {
            this.law = law;
            this.parish = parish;
        }

        void face(Parish faced, int k, int draw) {
            parish = faced;
            thing = k;
            drawn = draw;
        }

        /** The value of the first rule of a letter that holds, 0 to a bound. */
        int ask(int letter, int none, int most) {
            for (int r = 0; r < law.rules && r < MOST_RULES; r++) {
                if (law.letter[r] == letter && reckon(law.holdsAt[r], law.endAt[r]) != 0) {
                    return Math.max(0, Math.min(most, reckon(law.valueAt[r], law.holdsAt[r])));
                }
            }
            return none;
        }

        /** What is refused is 0: no value, and a condition that does not hold. */
        private int reckon(int from, int to) {
            top = 0;
            refused = false;
            int at = from;
            for (int i = 0; i < Law.MOST_STEPS && at >= 0 && at < to && at < Law.MOST_STEPS; i++) {
                int step = law.steps[at];
                int detail = law.details[at];
                at++;
                if (step == Law.NUMBER) {
                    push(detail);
                } else if (step == Law.FACT) {
                    push(fact(detail));
                } else {
                    int right = pop();
                    if (step == Law.NOT) {
                        push(right == 0 ? 1 : 0);
                    } else if (step != Law.SKIP_IF && step != Law.SKIP_UNLESS) {
                        push(joined(step, pop(), right));
                    } else if ((right != 0) == (step == Law.SKIP_IF)) {
                        push(right);
                        at = detail;
                    }
                }
                if (refused) {
                    return 0;
                }
            }
            return pop();
        }

        private int joined(int sign, int left, int right) {
            if ((sign == '/' || sign == '%') && right == 0) {
                refused = true;
                return 0;
            }
            switch (sign) {
                case '+': return left + right;
                case '-': return left - right;
                case '*': return left * right;
                case '/': return right == 0 ? 0 : left / right;
                case '%': return right == 0 ? 0 : left % right;
                case '<': return left < right ? 1 : 0;
                case '>': return left > right ? 1 : 0;
                default: return left == right ? 1 : 0;
            }
        }

        private int fact(int letter) {
            if (!parish.has(thing)) {
                return 0;
            }
            switch (letter) {
                case 'k': return thing;
                case 'p': return parish.owner[thing];
                case 'n': return parish.putOff[thing];
                case 'l': return parish.length[thing];
                case 'i': return parish.isLit(thing) ? 1 : 0;
                case 'm': return parish.leftOf(parish.owner[thing]);
                case 'o': return parish.waitersFor(thing);
                case 't': return parish.day % 100;
                default: return drawn;
            }
        }

        private void push(int value) {
            if (top < STACK) {
                stack[top] = value;
                top++;
            }
        }

        private int pop() {
            if (top <= 0) {
                return 0;
            }
            top--;
            return stack[top];
        }
    }

    /** Lets days go by in a parish, be it the one that is or one that is tried. */
    private static final class Almanac {
        private final Reckoner reckoner;

        Almanac(Reckoner reckoner) {
            this.reckoner = reckoner;
        }

        /** How many things were done in them. */
        int pass(Parish parish, int days) {
            int before = Integer.bitCount(parish.doneBits);
            for (int i = 0; i < days && parish.day < LAST_DAY; i++) {
                for (int k = 0; k < parish.things && k < MOST_THINGS; k++) {
                    if (!parish.isDone(k)) {
                        passOver(parish, k);
                    }
                }
                parish.day++;
            }
            return Integer.bitCount(parish.doneBits) - before;
        }

        private void passOver(Parish parish, int k) {
            reckoner.face(parish, k, parish.draw());
            int lights = reckoner.ask('x', 0, 1);
            int burns = reckoner.ask('b', 1, 99);
            int tenths = reckoner.ask('d', 0, 10);
            if (lights > 0 && parish.length[k] > 0) {
                parish.putLight(k, true);
            }
            if (parish.isLit(k)) {
                parish.burn(k, burns);
            }
            boolean does = parish.draw() < tenths;
            if (does && parish.isFree(k)) {
                parish.finish(k);
            } else {
                parish.putItOff(k);
            }
        }
    }

    /** A twist, told turn by turn: its place and one more, below 0 if it goes under. */
    private static final class Twist {
        private static final int MOST_TURNS = 64;
        private static final int MOST_GROUPS = 2;
        private static final int MOST_STRANDS = 8;
        /** No order of eight strands needs more times than 15 to come home. */
        private static final int MOST_TIMES = 15;

        private final Reading reading;
        private final int[] turn = new int[MOST_TURNS];
        private final int[] left = new int[MOST_TURNS];
        private final int[] groupPlace = new int[MOST_GROUPS];
        private final int[] groupTimes = new int[MOST_GROUPS];
        private final int[] groupTurns = new int[MOST_GROUPS];
        private final int[] goal = new int[MOST_STRANDS];
        private int groups = 0;
        int turns = 0;

        Twist(Reading reading) {
            this.reading = reading;
        }

        int read(int strands) {
            reading.begin();
            turns = 0;
            groups = 0;
            for (int i = 0; i < TWIST_BYTES && !ends(); i++) {
                int place = reading.at;
                int times = readTimes();
                int sign = reading.sign();
                boolean over = sign >= 'a' && sign <= 'g';
                boolean under = sign >= 'A' && sign <= 'G';
                if (over || under) {
                    readTurn(sign - (over ? 'a' : 'A'), over, strands);
                    repeat(turns - 1, times, place);
                } else if (sign == '(') {
                    openGroup(place, times);
                } else if (sign == ')' && place == reading.at && groups > 0) {
                    closeGroup();
                } else {
                    reading.fail(1, reading.at);
                }
            }
            if (groups > 0) {
                reading.fail(1, reading.at);
            }
            return reading.fault;
        }

        private boolean ends() {
            return reading.failed() || reading.sign() == Tape.END;
        }

        private int readTimes() {
            int sign = reading.sign();
            if (sign < '2' || sign > '9') {
                return 1;
            }
            reading.at++;
            return sign - '0';
        }

        private void readTurn(int place, boolean over, int strands) {
            if (place > strands - 2) {
                reading.fail(3, reading.at);
                return;
            }
            reading.at++;
            if (turns < MOST_TURNS) {
                turn[turns] = over ? place + 1 : -place - 1;
            }
            turns++;
        }

        private void openGroup(int place, int times) {
            if (groups >= MOST_GROUPS) {
                reading.fail(5, reading.at);
                return;
            }
            groupPlace[groups] = place;
            groupTimes[groups] = times;
            groupTurns[groups] = turns;
            groups++;
            reading.at++;
        }

        private void closeGroup() {
            int group = groups - 1;
            if (group < 0 || group >= MOST_GROUPS || groupTurns[group] == turns) {
                reading.fail(1, reading.at);
                return;
            }
            groups--;
            reading.at++;
            repeat(groupTurns[group], groupTimes[group], groupPlace[group]);
        }

        /** Lays the turns from one on so many times in all, if there is room for them. */
        private void repeat(int from, int times, int place) {
            if (reading.failed()) {
                return;
            }
            int row = turns - from;
            int all = from + row * times;
            if (all > MOST_TURNS) {
                reading.fail(6, place);
                return;
            }
            for (int i = turns; i < all; i++) {
                if (i >= row && i - row < MOST_TURNS) {
                    turn[i] = turn[i - row];
                }
            }
            turns = all;
        }

        int oversLessUnders() {
            int sum = 0;
            for (int i = 0; i < turns && i < MOST_TURNS; i++) {
                sum += turn[i] > 0 ? 1 : -1;
            }
            return sum;
        }

        int turnsLeft() {
            int many = 0;
            for (int i = 0; i < turns && i < MOST_TURNS; i++) {
                if (many > 0 && left[many - 1] == -turn[i]) {
                    many--;
                } else {
                    left[many] = turn[i];
                    many++;
                }
            }
            return many;
        }

        int comesOut(int strand) {
            int at = strand;
            for (int i = 0; i < turns && i < MOST_TURNS; i++) {
                int place = Math.abs(turn[i]) - 1;
                if (at == place) {
                    at++;
                } else if (at == place + 1) {
                    at--;
                }
            }
            return at;
        }

        int timesTillHome(int strands) {
            for (int s = 0; s < strands && s < MOST_STRANDS; s++) {
                goal[s] = s;
            }
            int times = 0;
            boolean home = false;
            while (times < MOST_TIMES && !home) {
                times++;
                home = true;
                for (int s = 0; s < strands && s < MOST_STRANDS; s++) {
                    goal[s] = comesOut(goal[s]);
                    home = home && goal[s] == s;
                }
            }
            return times;
        }
    }

    /** Who waits for whom, told in twos on the tape; a row of bits for each who waits. */
    private static final class Waits {
        /** In an order or in its reverse half of 20 waits at most go back, so no more must end. */
        private static final int MOST_ENDED = 10;

        private final Tape tape;
        private final int[] waitsFor = new int[PEOPLE];
        private final int[] stays = new int[PEOPLE];
        private final int[] from = new int[PEOPLE];
        private final int[] rings = new int[(MOST_ENDED + 1) * PEOPLE];

        Waits(Tape tape) {
            this.tape = tape;
        }

        boolean read(int n) {
            Arrays.fill(waitsFor, 0);
            Arrays.fill(stays, 0);
            for (int i = 0; i < n; i++) {
                int who = tape.at(2 * i);
                int whom = tape.at(2 * i + 1);
                if (!within(who, 0, PEOPLE - 1) || !within(whom, 0, PEOPLE - 1) || who == whom) {
                    return false;
                }
                waitsFor[who] |= 1 << whom;
            }
            return true;
        }

        /** Whoever waits for none of these is let go, till all that are left wait for one of them. */
        int forEver() {
            int bits = (1 << PEOPLE) - 1;
            for (int round = 0; round < PEOPLE; round++) {
                for (int who = 0; who < PEOPLE; who++) {
                    if ((waitsFor[who] & bits) == 0) {
                        bits &= ~(1 << who);
                    }
                }
            }
            return bits;
        }

        int fewestToEnd() {
            for (int many = ringsOfTwo(); many < MOST_ENDED; many++) {
                if (canEnd(many, 0)) {
                    return many;
                }
            }
            return MOST_ENDED;
        }

        /**
         * One wait of the shortest ring must end: each is tried. Those that were tried ahead of it
         * stay then, or the same waits would be tried in all their orders.
         */
        private boolean canEnd(int many, int depth) {
            int size = findShortestRing(depth);
            if (size == 0) {
                return true;
            }
            if (many <= 0 || many < ringsOfTwo() || depth >= MOST_ENDED) {
                return false;
            }
            boolean found = false;
            int triedHere = 0;
            for (int i = 0; i < size && !found; i++) {
                int who = ringAt(depth, i);
                int wait = 1 << ringAt(depth, i + 1 < size ? i + 1 : 0);
                if ((stays[who] & wait) == 0) {
                    waitsFor[who] &= ~wait;
                    found = canEnd(many - 1, depth + 1);
                    waitsFor[who] |= wait;
                    stays[who] |= wait;
                    triedHere |= 1 << i;
                }
            }
            for (int i = 0; i < size; i++) {
                if ((triedHere >>> i & 1) != 0) {
                    stays[ringAt(depth, i)] &= ~(1 << ringAt(depth, i + 1 < size ? i + 1 : 0));
                }
            }
            return found;
        }

        /** No two of these have a wait in common, so at least as many must end. */
        private int ringsOfTwo() {
            int many = 0;
            for (int who = 1; who < PEOPLE; who++) {
                for (int other = 0; other < who && waitsFor[who] != 0; other++) {
                    if ((waitsFor[who] >>> other & waitsFor[other] >>> who & 1) != 0) {
                        many++;
                    }
                }
            }
            return many;
        }

        private int ringAt(int depth, int i) {
            int place = depth * PEOPLE + i;
            return place >= 0 && place < rings.length ? rings[place] : 0;
        }

        private int findShortestRing(int depth) {
            int shortest = 0;
            int bits = forEver();
            for (int who = 0; who < PEOPLE && shortest != 2; who++) {
                if ((bits >>> who & 1) != 0) {
                    int size = findRingOf(who, shortest == 0 ? PEOPLE : shortest - 1, depth);
                    shortest = size > 0 ? size : shortest;
                }
            }
            return shortest;
        }

        /** The size of the shortest ring through one, 0 if there is none of this size at most. */
        private int findRingOf(int start, int most, int depth) {
            int reached = 1 << start;
            int edge = reached;
            for (int size = 1; size <= most && edge != 0; size++) {
                int next = 0;
                for (int who = 0; who < PEOPLE; who++) {
                    if ((edge >>> who & 1) != 0) {
                        if ((waitsFor[who] >>> start & 1) != 0) {
                            writeRing(who, size, depth);
                            return size;
                        }
                        int fresh = waitsFor[who] & ~reached;
                        reached |= fresh;
                        next |= fresh;
                        markFrom(who, fresh);
                    }
                }
                edge = next;
            }
            return 0;
        }

        private void markFrom(int who, int fresh) {
            for (int other = 0; other < PEOPLE; other++) {
                if ((fresh >>> other & 1) != 0) {
                    from[other] = who;
                }
            }
        }

        private void writeRing(int last, int size, int depth) {
            int who = last;
            for (int i = size - 1; i >= 0; i--) {
                int place = depth * PEOPLE + i;
                if (place < rings.length) {
                    rings[place] = who;
                }
                who = from[who];
            }
        }
    }

    /** Lights along a shore; where each is and how far it is seen stand in twos on the tape. */
    private static final class Shore {
        private static final int PLACES = 256;
        private static final int MOST_LIGHTS = 12;
        private static final int WORDS = PLACES / 64;

        private final Tape tape;
        private final long[] view = new long[MOST_LIGHTS * WORDS];

        Shore(Tape tape) {
            this.tape = tape;
        }

        private boolean isSeen(int light, int place) {
            return Math.abs(tape.at(2 * light) - place) <= tape.at(2 * light + 1);
        }

        private boolean sees(int place, int n, int many) {
            int lights = 0;
            for (int i = 0; i < n; i++) {
                if (isSeen(i, place)) {
                    lights++;
                }
            }
            return lights >= many;
        }

        int placesSeeing(int n, int many) {
            int places = 0;
            for (int place = 0; place < PLACES; place++) {
                if (sees(place, n, many)) {
                    places++;
                }
            }
            return places;
        }

        int longestRow(int n, int many) {
            int longest = 0;
            int row = 0;
            for (int place = 0; place < PLACES; place++) {
                row = sees(place, n, many) ? row + 1 : 0;
                longest = Math.max(longest, row);
            }
            return longest;
        }

        /** Every choice is asked, from the least bits on. */
        int bestLights(int n, int many) {
            fillView(n);
            int best = 0;
            int most = -1;
            for (int bits = 1; bits < 1 << n; bits++) {
                if (Integer.bitCount(bits) == many) {
                    int places = placesOf(bits, n);
                    if (places > most) {
                        best = bits;
                        most = places;
                    }
                }
            }
            return best;
        }

        int placesOf(int bits, int n) {
            int places = 0;
            for (int word = 0; word < WORDS; word++) {
                long all = 0;
                for (int i = 0; i < n && i < MOST_LIGHTS; i++) {
                    if ((bits >>> i & 1) != 0) {
                        all |= view[i * WORDS + word];
                    }
                }
                places += Long.bitCount(all);
            }
            return places;
        }

        private void fillView(int n) {
            Arrays.fill(view, 0L);
            for (int i = 0; i < n && i < MOST_LIGHTS; i++) {
                for (int place = 0; place < PLACES; place++) {
                    if (isSeen(i, place)) {
                        view[i * WORDS + place / 64] |= 1L << (place % 64);
                    }
                }
            }
        }
    }

    /** What is reckoned straight from a row of bytes, or of twos, on the tape. */
    private static final class Rows {
        private final Tape tape;

        Rows(Tape tape) {
            this.tape = tape;
        }

        /** The least row begins with the lowest thing that any best row begins with. */
        int bestFirst(int n) {
            int best = 0;
            int fewest = hoursBehind(0, n);
            for (int first = 1; first < n; first++) {
                int hours = hoursBehind(first, n);
                if (hours < fewest) {
                    best = first;
                    fewest = hours;
                }
            }
            return best;
        }

        /** Johnson's order is the best one for what comes behind a first thing, too. */
        int hoursBehind(int first, int n) {
            int one = tape.at(2 * first);
            int other = one + tape.at(2 * first + 1);
            int spun = 1 << first;
            for (int i = 1; i < n; i++) {
                int k = nextToSpin(spun, n);
                spun |= 1 << k;
                one += tape.at(2 * k);
                other = Math.max(one, other) + tape.at(2 * k + 1);
            }
            return other;
        }

        private int nextToSpin(int spun, int n) {
            int next = NONE;
            for (int k = 0; k < n; k++) {
                if ((spun >>> k & 1) == 0 && (next < 0 || spinsAhead(k, next))) {
                    next = k;
                }
            }
            return next;
        }

        private boolean spinsAhead(int k, int other) {
            boolean early = tape.at(2 * k) < tape.at(2 * k + 1);
            boolean otherEarly = tape.at(2 * other) < tape.at(2 * other + 1);
            if (early != otherEarly) {
                return early;
            }
            if (early) {
                return tape.at(2 * k) < tape.at(2 * other);
            }
            return tape.at(2 * k + 1) > tape.at(2 * other + 1);
        }

        /** Of the wicks that burn where it gets dark the one that burns longest is never worse. */
        int fewestWicks(int n, int hour) {
            for (int i = 0; i < n; i++) {
                if (tape.at(2 * i + 1) <= tape.at(2 * i)) {
                    return WRONG_BYTES;
                }
            }
            int litTo = 0;
            for (int wicks = 0; wicks <= n; wicks++) {
                if (litTo >= hour) {
                    return wicks;
                }
                litTo = farthestFrom(n, litTo);
            }
            return NOT_FOUND;
        }

        private int farthestFrom(int n, int litTo) {
            int farthest = litTo;
            for (int i = 0; i < n; i++) {
                if (tape.at(2 * i) <= litTo) {
                    farthest = Math.max(farthest, tape.at(2 * i + 1));
                }
            }
            return farthest;
        }

        int dayIfKnowing(int n, int tenths) {
            int day = n - 1;
            for (int i = n - 2; i >= 0; i--) {
                if (10 * tape.at(i) <= tenths * tape.at(day)) {
                    day = i;
                }
            }
            return day;
        }

        int dayIfNotKnowing(int n, int tenths) {
            int day = n - 1;
            int least = tape.at(n - 1);
            for (int i = n - 2; i >= 0; i--) {
                if (10 * tape.at(i) <= tenths * least) {
                    day = i;
                }
                least = Math.min(least, tape.at(i));
            }
            return day;
        }

        /** A cord that can be made can be made shorter, so its length is found bit by bit. */
        int longestCord(int n, int many) {
            int longest = 0;
            for (int bit = 2048; bit > 0; bit >>= 1) {
                if (sufficesFor(n, many, longest + bit)) {
                    longest += bit;
                }
            }
            return longest;
        }

        /** No wick gives more than the cord's own length, or it would lie twice at one place. */
        private boolean sufficesFor(int n, int many, int cordLength) {
            int sum = 0;
            for (int i = 0; i < n; i++) {
                sum += Math.min(tape.at(i), cordLength);
            }
            return sum >= many * cordLength;
        }

        int evenestCut(int n) {
            int best = 1;
            for (int cut = 2; cut < n; cut++) {
                if (difference(n, cut) < difference(n, best)) {
                    best = cut;
                }
            }
            return best;
        }

        int difference(int n, int cut) {
            int sum = 0;
            for (int i = 0; i < n; i++) {
                sum += i < cut ? tape.at(i) : -tape.at(i);
            }
            return Math.abs(sum);
        }

        int unbeaten(int n) {
            int many = 0;
            for (int k = 0; k < n; k++) {
                boolean beaten = false;
                for (int other = 0; other < n && !beaten; other++) {
                    beaten = beats(other, k);
                }
                if (!beaten) {
                    many++;
                }
            }
            return many;
        }

        private boolean beats(int other, int k) {
            int saved = tape.at(2 * k) - tape.at(2 * other);
            int gained = tape.at(2 * other + 1) - tape.at(2 * k + 1);
            return saved >= 0 && gained >= 0 && saved + gained > 0;
        }
    }
}
