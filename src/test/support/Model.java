import java.util.ArrayList;
import java.util.Arrays;
import java.util.List;

/**
 * The document once more, in the slowest and most literal way: texts are kept and walked sign by
 * sign, and what is best is found by trying all. It shares no code with the program.
 */
final class Model {
    static final class Thing {
        int owner;
        int length;
        boolean lit;
        int days;
        boolean done;
        int waits = -2;

        Thing copy() {
            Thing t = new Thing();
            t.owner = owner;
            t.length = length;
            t.lit = lit;
            t.days = days;
            t.done = done;
            t.waits = waits;
            return t;
        }
    }

    static final class State {
        List<Thing> things = new ArrayList<>();
        int guttered;
        int day;
        long x = 1;

        State copy() {
            State s = new State();
            for (Thing t : things) {
                s.things.add(t.copy());
            }
            s.guttered = guttered;
            s.day = day;
            s.x = x;
            return s;
        }

        int draw() {
            x = (25173 * x + 13849) % 65536;
            return (int) (x % 10);
        }

        int bits(boolean ofLit) {
            int bits = 0;
            for (int k = 0; k < things.size(); k++) {
                if (ofLit ? things.get(k).lit : things.get(k).done) {
                    bits |= 1 << k;
                }
            }
            return bits;
        }
    }

    State now = new State();
    State kept = null;
    String law = "";
    final StringBuilder tape = new StringBuilder();

    // ---- the tape

    int feed(int... ints) {
        if (tape.length() + 20 > 260) {
            return -1;
        }
        for (int i : ints) {
            tape.append((char) (i >>> 24)).append((char) (i >>> 16 & 255)).append((char) (i >>> 8 & 255)).append((char) (i & 255));
        }
        return tape.length();
    }

    /** null if there are not so many. */
    private String take(long n) {
        if (n > tape.length()) {
            return null;
        }
        String text = tape.substring(0, (int) n);
        tape.setLength(0);
        return text;
    }

    // ---- the law: its faults by a machine of modes and a stack

    private static final class LawCheck {
        final StringBuilder stack = new StringBuilder();
        char mode = 'r';
        int rules;
        int digits;

        int opens() {
            int many = 0;
            for (int i = 0; i < stack.length(); i++) {
                many += "R([!".indexOf(stack.charAt(i)) >= 0 ? 1 : 0;
            }
            return many;
        }

        char top() {
            return stack.length() == 0 ? ' ' : stack.charAt(stack.length() - 1);
        }

        void swap(String by) {
            stack.setLength(stack.length() - 1);
            stack.append(by);
        }

        void testEnds() {
            while (top() == '!') {
                swap("");
            }
            mode = 'a';
        }

        /** 0, or the number of the fault. */
        int next(char c) {
            switch (mode) {
                case 'r':
                    if ("dbx".indexOf(c) < 0) {
                        return 1;
                    }
                    if (++rules > 16) {
                        return 4;
                    }
                    if (c == 'x') {
                        mode = 'p';
                    } else {
                        stack.append('V');
                        mode = 'f';
                    }
                    return 0;
                case 'p':
                    if (c != '(') {
                        return 1;
                    }
                    stack.append('R');
                    mode = 't';
                    return 0;
                case 't':
                    if (c == '!' || c == '(') {
                        if (opens() == 6) {
                            return 5;
                        }
                        stack.append(c);
                        return 0;
                    }
                    stack.append('L');
                    mode = 'f';
                    return next(c);
                case 'f':
                    return factor(c);
                case 'n':
                    if (Character.isDigit(c)) {
                        return ++digits > 5 ? 2 : 0;
                    }
                    mode = 'b';
                    return next(c);
                case 'b':
                    return behindFactor(c);
                case 'a':
                    if (c == '&' || c == '|') {
                        mode = 't';
                        return 0;
                    }
                    if (c != ')') {
                        return 1;
                    }
                    if (top() == 'R') {
                        swap("");
                        mode = 'e';
                    } else {
                        swap("");
                        testEnds();
                    }
                    return 0;
                default:
                    mode = 'r';
                    return c == ';' ? 0 : 1;
            }
        }

        private int factor(char c) {
            if (c == '[') {
                if (opens() == 6) {
                    return 5;
                }
                stack.append(c);
            } else if (c >= '0' && c <= '9') {
                mode = 'n';
                digits = 1;
            } else if ("kpnlimotw".indexOf(c) >= 0) {
                mode = 'b';
            } else {
                return 1;
            }
            return 0;
        }

        private int behindFactor(char c) {
            if ("+-*/%".indexOf(c) >= 0) {
                mode = 'f';
                return 0;
            }
            switch (top()) {
                case '[':
                    if (c != ']') {
                        return 1;
                    }
                    swap("");
                    return 0;
                case 'V':
                    if (c != '(') {
                        return 1;
                    }
                    swap("R");
                    mode = 't';
                    return 0;
                case 'L':
                    if ("<>=".indexOf(c) < 0) {
                        return 1;
                    }
                    swap("Q");
                    mode = 'f';
                    return 0;
                default:
                    if ("&|)".indexOf(c) < 0) {
                        return 1;
                    }
                    swap("");
                    testEnds();
                    return next(c);
            }
        }
    }

    int law(int n) {
        String text = n < 1 || n > 240 ? null : take(n);
        if (text == null) {
            return -1;
        }
        LawCheck check = new LawCheck();
        for (int i = 0; i < text.length(); i++) {
            int fault = check.next(text.charAt(i));
            if (fault != 0) {
                return -1000 * fault - i;
            }
        }
        if (check.mode != 'e') {
            return -1000 - text.length();
        }
        law = text;
        return text.split(";").length;
    }

    /** Walks a text that has no fault; what is not live is walked over, but not asked. */
    private final class Asker {
        final String text;
        final State state;
        final int k;
        final int w;
        int at;
        boolean refused;

        Asker(String text, State state, int k, int w) {
            this.text = text;
            this.state = state;
            this.k = k;
            this.w = w;
        }

        boolean sees(String signs) {
            return at < text.length() && signs.indexOf(text.charAt(at)) >= 0;
        }

        boolean condition(boolean live) {
            boolean any = part(live);
            while (sees("|")) {
                at++;
                boolean more = part(live && !any);
                any = any || more;
            }
            return any;
        }

        boolean part(boolean live) {
            boolean all = test(live);
            while (sees("&")) {
                at++;
                boolean more = test(live && all);
                all = all && more;
            }
            return all;
        }

        boolean test(boolean live) {
            if (sees("!")) {
                at++;
                return !test(live);
            }
            if (sees("(")) {
                at++;
                boolean held = condition(live);
                at++;
                return held;
            }
            int left = sum(live);
            char sign = text.charAt(at++);
            int right = sum(live);
            return sign == '<' ? left < right : sign == '>' ? left > right : left == right;
        }

        int sum(boolean live) {
            long value = product(live);
            while (sees("+-")) {
                boolean plus = text.charAt(at++) == '+';
                int more = product(live);
                value = (int) (plus ? value + more : value - more);
            }
            return (int) value;
        }

        int product(boolean live) {
            long value = factor(live);
            while (sees("*/%")) {
                char sign = text.charAt(at++);
                int by = factor(live);
                if (sign == '*') {
                    value = (int) (value * by);
                } else if (by == 0) {
                    refused |= live;
                    value = 0;
                } else {
                    value = (int) (sign == '/' ? value / by : value % by);
                }
            }
            return (int) value;
        }

        int factor(boolean live) {
            char sign = text.charAt(at++);
            if (sign == '[') {
                int value = sum(live);
                at++;
                return value;
            }
            if (Character.isDigit(sign)) {
                int from = at - 1;
                while (sees("0123456789")) {
                    at++;
                }
                return Integer.parseInt(text.substring(from, at));
            }
            Thing t = state.things.get(k);
            int many = 0;
            switch (sign) {
                case 'k': return k;
                case 'p': return t.owner;
                case 'n': return t.days;
                case 'l': return t.length;
                case 'i': return t.lit ? 1 : 0;
                case 't': return state.day % 100;
                case 'w': return w;
                case 'm':
                    for (Thing u : state.things) {
                        many += u.owner == t.owner && !u.done ? 1 : 0;
                    }
                    return many;
                default:
                    for (Thing u : state.things) {
                        many += u.waits == k ? 1 : 0;
                    }
                    return many;
            }
        }
    }

    private int ask(char letter, State s, int k, int w, int none, int most) {
        if (law.isEmpty()) {
            return none;
        }
        for (String rule : law.split(";")) {
            if (rule.charAt(0) == letter) {
                Asker value = new Asker(rule, s, k, w);
                value.at = 1;
                int e = letter == 'x' ? 1 : value.sum(true);
                Asker holds = new Asker(rule, s, k, w);
                holds.at = value.at + 1;
                if (holds.condition(true) && !holds.refused) {
                    return value.refused ? 0 : Math.max(0, Math.min(most, e));
                }
            }
        }
        return none;
    }

    private void day(State s) {
        if (s.day == 9999) {
            return;
        }
        for (int k = 0; k < s.things.size(); k++) {
            Thing t = s.things.get(k);
            if (t.done) {
                continue;
            }
            int w = s.draw();
            int x = ask('x', s, k, w, 0, 1);
            int b = ask('b', s, k, w, 1, 99);
            int d = ask('d', s, k, w, 0, 10);
            t.lit = t.lit || x == 1 && t.length > 0;
            if (t.lit) {
                t.length = Math.max(0, t.length - b);
                t.lit = t.length > 0;
            }
            int other = s.draw();
            if (other < d && (t.waits < 0 || s.things.get(t.waits).done)) {
                t.done = true;
                s.guttered += t.lit ? 1 : 0;
                t.lit = false;
            } else {
                t.days = Math.min(9999, t.days + 1);
                t.length = t.lit ? t.length : Math.min(999, t.length + 1);
            }
        }
        s.day++;
    }

    // ---- the parish

    int parish(int n) {
        String text = n < 1 || n > 200 ? null : take(n);
        if (text == null) {
            return -1;
        }
        List<Thing> things = new ArrayList<>();
        int at = 0;
        String ended = text + '\0';
        while (true) {
            char c = ended.charAt(at);
            if (c < 'a' || c > 'p') {
                return -1000 - at;
            }
            if (things.size() == 24) {
                return -4000 - at;
            }
            Thing t = new Thing();
            t.owner = c - 'a';
            int from = ++at;
            while (Character.isDigit(ended.charAt(at))) {
                if (at - from == 3) {
                    return -2000 - at;
                }
                at++;
            }
            if (at == from) {
                return -1000 - at;
            }
            t.length = Integer.parseInt(ended.substring(from, at));
            if (ended.charAt(at) == '*') {
                at++;
                t.lit = t.length > 0;
            }
            if (ended.charAt(at) == '<') {
                from = ++at;
                while (Character.isDigit(ended.charAt(at))) {
                    if (at - from == 2) {
                        return -2000 - at;
                    }
                    at++;
                }
                if (at == from) {
                    return -1000 - at;
                }
                t.waits = Integer.parseInt(ended.substring(from, at));
                if (t.waits >= things.size()) {
                    return -3000 - from;
                }
            }
            things.add(t);
            if (at == text.length()) {
                now.things = things;
                now.guttered = 0;
                return things.size();
            }
            if (ended.charAt(at++) != ';') {
                return -1000 - at + 1;
            }
        }
    }

    boolean lit(int k, boolean is) {
        if (k < 0 || k >= now.things.size()) {
            return false;
        }
        Thing t = now.things.get(k);
        if (t.done || is && t.length == 0) {
            return false;
        }
        t.lit = is;
        return true;
    }

    int days(int n) {
        if (n < 1 || n > 100) {
            return -1;
        }
        int before = Integer.bitCount(now.bits(false));
        for (int i = 0; i < n; i++) {
            day(now);
        }
        return Integer.bitCount(now.bits(false)) - before;
    }

    int tried(int n, int what) {
        int size = now.things.size();
        if (n < 1 || n > 100) {
            return -1;
        }
        State s = now.copy();
        for (int i = 0; i < n; i++) {
            day(s);
        }
        if (what == 0) {
            return Integer.bitCount(s.bits(false)) - Integer.bitCount(now.bits(false));
        }
        if (what == 1) {
            return s.guttered;
        }
        if (what == 2 || what == 3) {
            return s.bits(what == 2);
        }
        if (what >= 10 && what < 10 + size) {
            return s.things.get(what - 10).length;
        }
        return what >= 40 && what < 40 + size ? s.things.get(what - 40).days : -1;
    }

    int thingIs(int k, int what) {
        if (k < 0 || k >= now.things.size() || what < 0 || what > 5) {
            return -1;
        }
        Thing t = now.things.get(k);
        return new int[] {t.owner, t.length, t.lit ? 1 : 0, t.days, t.done ? 1 : 0, t.waits}[what];
    }

    int byWhen(int k, int n) {
        if (k < 0 || k >= now.things.size() || n < 1 || n > 100) {
            return -1;
        }
        State s = now.copy();
        for (int i = 0; i <= n; i++) {
            if (s.things.get(k).done) {
                return i;
            }
            day(s);
        }
        return -2;
    }

    int dark(int n) {
        if (n < 1 || n > 100) {
            return -1;
        }
        State s = now.copy();
        for (int i = 0; i <= n; i++) {
            if (s.bits(true) == 0) {
                return i;
            }
            day(s);
        }
        return -2;
    }

    int pride(int what) {
        if (what < 0 || what > 1) {
            return -1;
        }
        int[] sums = new int[16];
        Arrays.fill(sums, -1);
        for (Thing t : now.things) {
            if (!t.done) {
                sums[t.owner] = Math.max(0, sums[t.owner]) + t.days;
            }
        }
        int best = Arrays.stream(sums).max().getAsInt();
        if (best < 0) {
            return what == 0 ? -2 : 0;
        }
        int who = 0;
        while (sums[who] < best) {
            who++;
        }
        return what == 0 ? who : best;
    }

    int oldest() {
        for (int d = 9999; d >= 0; d--) {
            for (int k = 0; k < now.things.size(); k++) {
                if (!now.things.get(k).done && now.things.get(k).days == d) {
                    return k;
                }
            }
        }
        return -2;
    }

    int chain(int k) {
        if (k < 0 || k >= now.things.size()) {
            return -1;
        }
        int next = now.things.get(k).waits;
        return next < 0 ? 1 : 1 + chain(next);
    }

    int orders() {
        List<Integer> left = new ArrayList<>();
        for (int k = 0; k < now.things.size(); k++) {
            if (!now.things.get(k).done) {
                left.add(k);
            }
        }
        if (left.size() > 12) {
            return -4;
        }
        int[] ways = new int[1 << left.size()];
        ways[0] = 1;
        for (int set = 0; set < ways.length; set++) {
            for (int i = 0; i < left.size(); i++) {
                int other = left.indexOf(now.things.get(left.get(i)).waits);
                if ((set >> i & 1) == 0 && (other < 0 || (set >> other & 1) == 1)) {
                    ways[set | 1 << i] += ways[set];
                }
            }
        }
        return ways[ways.length - 1];
    }

    int light(int p) {
        if (p < 0 || p > 16) {
            return -1;
        }
        int sum = 0;
        for (Thing t : now.things) {
            sum += t.lit && (p == 16 || p == t.owner) ? t.length : 0;
        }
        return sum;
    }

    int worstNews(int what) {
        if (what < 0 || what > 1) {
            return -1;
        }
        int best = 0;
        int who = -2;
        for (int p = 15; p >= 0; p--) {
            if (light(p) > 0 && light(p) >= best) {
                best = light(p);
                who = p;
            }
        }
        return what == 0 ? who : best;
    }

    int median() {
        int[] days = now.things.stream().filter(t -> !t.done).mapToInt(t -> t.days).sorted().toArray();
        return days.length == 0 ? -2 : days[(days.length - 1) / 2];
    }

    // ---- twists: a reader that calls itself, and a text of turns

    private static final class Fault extends Exception {
        private static final long serialVersionUID = 1L;
        final int code;

        Fault(int number, int place) {
            super();
            code = -1000 * number - place;
        }
    }

    private static final class TwistReader {
        final String text;
        final int strands;
        int at;

        TwistReader(String text, int strands) {
            this.text = text + '\0';
            this.strands = strands;
        }

        /** The turns read so far, those ahead of it with them. */
        String turns(String ahead, int depth) throws Fault {
            String all = ahead;
            do {
                int start = at;
                int times = 1;
                if ("23456789".indexOf(text.charAt(at)) >= 0) {
                    times = text.charAt(at++) - '0';
                }
                char c = text.charAt(at);
                String one;
                if ("abcdefgABCDEFG".indexOf(c) >= 0) {
                    if (Character.toLowerCase(c) - 'a' > strands - 2) {
                        throw new Fault(3, at);
                    }
                    at++;
                    one = "" + c;
                } else if (c == '(') {
                    if (depth == 2) {
                        throw new Fault(5, at);
                    }
                    at++;
                    one = turns(all, depth + 1).substring(all.length());
                    if (text.charAt(at) != ')') {
                        throw new Fault(1, at);
                    }
                    at++;
                } else {
                    throw new Fault(1, at);
                }
                all = all + one.repeat(times);
                if (all.length() > 64) {
                    throw new Fault(6, start);
                }
            } while (text.charAt(at) != '\0' && !(text.charAt(at) == ')' && depth > 0));
            return all;
        }
    }

    int twist(int strands, int n, int what) {
        boolean good = strands >= 2 && strands <= 8 && n >= 1 && n <= 80
            && (what >= 0 && what < strands || what >= 100 && what <= 103);
        String text = good ? take(n) : null;
        if (text == null) {
            return -1;
        }
        String turns;
        try {
            turns = new TwistReader(text, strands).turns("", 0);
        } catch (Fault fault) {
            return fault.code;
        }
        if (what == 100) {
            return turns.length();
        }
        if (what == 101) {
            return (int) turns.chars().map(c -> Character.isLowerCase(c) ? 1 : -1).sum();
        }
        if (what == 102) {
            String before;
            do {
                before = turns;
                turns = turns.replaceFirst("aA|Aa|bB|Bb|cC|Cc|dD|Dd|eE|Ee|fF|Ff|gG|Gg", "");
            } while (!turns.equals(before));
            return turns.length();
        }
        int[] at = {0, 1, 2, 3, 4, 5, 6, 7};
        int times = 0;
        do {
            times++;
            for (char c : turns.toLowerCase().toCharArray()) {
                int swap = at[c - 'a'];
                at[c - 'a'] = at[c - 'a' + 1];
                at[c - 'a' + 1] = swap;
            }
            for (int place = 0; place < 8 && what < 100; place++) {
                if (at[place] == what) {
                    return place;
                }
            }
        } while (!Arrays.equals(at, new int[] {0, 1, 2, 3, 4, 5, 6, 7}));
        return times;
    }

    // ---- what is reckoned from bytes

    int waiting(int n, int what) {
        String text = n < 1 || n > 20 || what < 0 || what > 1 ? null : take(2L * n);
        if (text == null) {
            return -1;
        }
        boolean[][] waits = new boolean[16][16];
        for (int i = 0; i < 2 * n; i += 2) {
            if (text.charAt(i) > 15 || text.charAt(i + 1) > 15 || text.charAt(i) == text.charAt(i + 1)) {
                return -3;
            }
            waits[text.charAt(i)][text.charAt(i + 1)] = true;
        }
        if (what == 0) {
            return forEver(waits);
        }
        int[] rows = new int[16];
        for (int a = 0; a < 16; a++) {
            for (int b = 0; b < 16; b++) {
                rows[a] |= waits[a][b] ? 1 << b : 0;
            }
        }
        // the fewest waits that go back in any order of the people: set by set
        int[] fewest = new int[1 << 16];
        Arrays.fill(fewest, 1, fewest.length, 99);
        for (int set = 0; set < fewest.length; set++) {
            for (int a = 0; a < 16; a++) {
                if ((set >> a & 1) == 0) {
                    int cost = fewest[set] + Integer.bitCount(rows[a] & set);
                    fewest[set | 1 << a] = Math.min(fewest[set | 1 << a], cost);
                }
            }
        }
        return fewest[fewest.length - 1];
    }

    private static int forEver(boolean[][] waits) {
        boolean[][] reach = new boolean[16][];
        for (int a = 0; a < 16; a++) {
            reach[a] = waits[a].clone();
        }
        for (int c = 0; c < 16; c++) {
            for (int a = 0; a < 16; a++) {
                for (int b = 0; b < 16; b++) {
                    reach[a][b] |= reach[a][c] && reach[c][b];
                }
            }
        }
        int bits = 0;
        for (int a = 0; a < 16; a++) {
            for (int b = 0; b < 16; b++) {
                if (reach[a][a] || reach[a][b] && reach[b][b]) {
                    bits |= 1 << a;
                }
            }
        }
        return bits;
    }

    private int bestHours;
    private int bestFirst;

    int spun(int n, int what) {
        String text = n < 1 || n > 8 || what < 0 || what > 1 ? null : take(2L * n);
        if (text == null) {
            return -1;
        }
        bestHours = Integer.MAX_VALUE;
        spin(text, n, new int[n], 0, 0);
        return what == 0 ? bestHours : bestFirst;
    }

    private void spin(String text, int n, int[] row, int many, int used) {
        if (many == n) {
            int one = 0;
            int other = 0;
            for (int k : row) {
                one += text.charAt(2 * k);
                other = Math.max(one, other) + text.charAt(2 * k + 1);
            }
            if (other < bestHours) {
                bestHours = other;
                bestFirst = row[0];
            }
        }
        for (int k = 0; k < n; k++) {
            if ((used >> k & 1) == 0) {
                row[many] = k;
                spin(text, n, row, many + 1, used | 1 << k);
            }
        }
    }

    int night(int n, int hour) {
        String text = n < 1 || n > 16 || hour < 1 || hour > 255 ? null : take(2L * n);
        if (text == null) {
            return -1;
        }
        for (int i = 0; i < n; i++) {
            if (text.charAt(2 * i + 1) <= text.charAt(2 * i)) {
                return -3;
            }
        }
        // the fewest wicks behind which all is lit to an hour
        int[] fewest = new int[256];
        Arrays.fill(fewest, 1, 256, 99);
        for (int round = 0; round < 16; round++) {
            for (int i = 0; i < n; i++) {
                for (int h = text.charAt(2 * i); h <= text.charAt(2 * i + 1); h++) {
                    int to = text.charAt(2 * i + 1);
                    fewest[to] = Math.min(fewest[to], fewest[h] + 1);
                }
            }
        }
        int best = 99;
        for (int h = hour; h < 256; h++) {
            best = Math.min(best, fewest[h]);
        }
        return best == 99 ? -2 : best;
    }

    int putsOff(int n, int tenths, boolean knows, int what) {
        boolean good = n >= 1 && n <= 16 && tenths >= 1 && tenths <= 10 && what >= 0 && what <= 1;
        String text = good ? take(n) : null;
        if (text == null) {
            return -1;
        }
        int day = 0;
        while (!doesIt(text, day, tenths, knows)) {
            day++;
        }
        return what == 0 ? day : text.charAt(day);
    }

    private static boolean doesIt(String text, int day, int tenths, boolean knows) {
        if (day == text.length() - 1) {
            return true;
        }
        int other;
        if (knows) {
            int later = day + 1;
            while (!doesIt(text, later, tenths, true)) {
                later++;
            }
            other = text.charAt(later);
        } else {
            other = text.substring(day + 1).chars().min().getAsInt();
        }
        return 10 * text.charAt(day) <= tenths * other;
    }

    /** Place by place the longest pieces that are left are used. */
    int cord(int n, int many) {
        String text = n < 2 || n > 12 || many < 1 || many > 8 ? null : take(n);
        if (text == null) {
            return -1;
        }
        if (many > n) {
            return 0;
        }
        int[] left = text.chars().toArray();
        int places = 0;
        while (true) {
            Arrays.sort(left);
            if (left[n - many] == 0) {
                return places;
            }
            for (int i = n - many; i < n; i++) {
                left[i]--;
            }
            places++;
        }
    }

    int seen(int n, int many, int what) {
        boolean good = n >= 1 && n <= 12 && many >= 1 && many <= 12 && what >= 0 && what <= 1;
        String text = good ? take(2L * n) : null;
        if (text == null) {
            return -1;
        }
        int[] lights = new int[258];
        for (int i = 0; i < n; i++) {
            for (int at = -text.charAt(2 * i + 1); at <= text.charAt(2 * i + 1); at++) {
                int place = text.charAt(2 * i) + at;
                if (place >= 0 && place <= 255) {
                    lights[place]++;
                }
            }
        }
        StringBuilder shore = new StringBuilder();
        for (int place = 0; place < 256; place++) {
            shore.append(lights[place] >= many ? '*' : ' ');
        }
        int longest = 0;
        for (String row : shore.toString().split(" ")) {
            longest = Math.max(longest, row.length());
        }
        return what == 0 ? shore.toString().replace(" ", "").length() : longest;
    }

    int brightest(int n, int many, int what) {
        boolean good = n >= 1 && n <= 12 && many >= 1 && many <= n && what >= 0 && what <= 1;
        String text = good ? take(2L * n) : null;
        if (text == null) {
            return -1;
        }
        int most = -1;
        int which = 0;
        for (int bits = (1 << n) - 1; bits > 0; bits--) {
            if (Integer.bitCount(bits) == many) {
                boolean[] lit = new boolean[256];
                int places = 0;
                for (int i = 0; i < n; i++) {
                    int from = Math.max(0, text.charAt(2 * i) - text.charAt(2 * i + 1));
                    int to = Math.min(255, text.charAt(2 * i) + text.charAt(2 * i + 1));
                    for (int place = from; place <= to && (bits >> i & 1) == 1; place++) {
                        places += lit[place] ? 0 : 1;
                        lit[place] = true;
                    }
                }
                if (places >= most) {
                    most = places;
                    which = bits;
                }
            }
        }
        return what == 0 ? most : which;
    }

    int halves(int n, int what) {
        String text = n < 2 || n > 16 || what < 0 || what > 1 ? null : take(n);
        if (text == null) {
            return -1;
        }
        int best = Integer.MAX_VALUE;
        int where = 0;
        for (int cut = 1; cut < n; cut++) {
            int by = Math.abs(text.substring(0, cut).chars().sum() - text.substring(cut).chars().sum());
            if (by < best) {
                best = by;
                where = cut;
            }
        }
        return what == 0 ? where : best;
    }

    int forgiven(int n) {
        String text = n < 1 || n > 16 ? null : take(2L * n);
        if (text == null) {
            return -1;
        }
        int many = 0;
        for (int k = 0; k < n; k++) {
            boolean stays = true;
            for (int j = 0; j < n; j++) {
                int cost = text.charAt(2 * j) - text.charAt(2 * k);
                int worth = text.charAt(2 * j + 1) - text.charAt(2 * k + 1);
                stays &= !(cost < 0 && worth >= 0 || cost <= 0 && worth > 0);
            }
            many += stays ? 1 : 0;
        }
        return many;
    }

    // ---- kept and undone

    boolean seed(int x) {
        if (x < 0 || x > 65535) {
            return false;
        }
        now.x = x;
        return true;
    }

    int keep() {
        kept = now.copy();
        return now.day;
    }

    boolean undo() {
        if (kept == null) {
            return false;
        }
        for (int k = 0; k < kept.things.size() && k < now.things.size(); k++) {
            Thing was = kept.things.get(k);
            Thing is = now.things.get(k);
            is.length = was.length;
            is.lit = was.lit;
            is.days = was.days;
            is.done = was.done;
        }
        now.guttered = kept.guttered;
        now.day = kept.day;
        now.x = kept.x;
        return true;
    }

    int check(int n) {
        String text = n < 0 || n > 24 ? null : take(n);
        if (text == null) {
            return -2;
        }
        for (int k = 0; k < n; k++) {
            if (text.charAt(k) != (k < now.things.size() ? now.things.get(k).length % 256 : 0)) {
                return k;
            }
        }
        return -1;
    }

    int count(int what) {
        switch (what) {
            case 0: return now.day;
            case 1: return now.things.size();
            case 2: return now.bits(true);
            case 3: return now.bits(false);
            case 4: return now.guttered;
            case 5: return law.isEmpty() ? 0 : law.split(";").length;
            case 6: return tape.length();
            case 7: return (int) now.x;
            case 8:
                int bits = 0;
                for (Thing t : now.things) {
                    bits |= t.done ? 0 : 1 << t.owner;
                }
                return bits;
            default: return -1;
        }
    }
}
