import java.math.BigInteger;
import java.util.ArrayDeque;
import java.util.ArrayList;
import java.util.HashSet;
import java.util.List;
import java.util.Set;
import java.util.TreeSet;
import java.util.function.Predicate;

/**
 * The document a second time, written apart from the class and in another way: states are copied
 * instead of set back, sheets are real rows of the host, texts are read by a machine of two modes.
 */
final class Model {
    static final long NO = -4611686018427387904L;

    record One(int kind, int more, int seat, int held) { }

    static final class State {
        int[] thick = new int[36];
        List<One> people = new ArrayList<>();
        int day;
        int law;

        State copy() {
            State s = new State();
            s.thick = thick.clone();
            s.people = new ArrayList<>(people);
            s.day = day;
            s.law = law;
            return s;
        }

        int all() {
            int sum = 0;
            for (int t : thick) {
                sum += t;
            }
            return sum;
        }
    }

    State state = new State();
    State image;
    final List<List<List<String>>> texts = new ArrayList<>();
    String tape = "";
    final Object[] sheets = new Object[4];

    Model() {
        texts.add(List.of(List.of("held"), List.of("1"), List.of("thick")));
    }

    // ---- cells

    static boolean cellThere(int c) {
        return c >= 0 && c < 36;
    }

    static int apart(int c, int d) {
        return Math.abs(c % 6 - d % 6) + Math.abs(c / 6 - d / 6);
    }

    static List<Integer> beside(int c) {
        List<Integer> found = new ArrayList<>();
        for (int d = 0; d < 36; d++) {
            if (apart(c, d) == 1) {
                found.add(d);
            }
        }
        return found;
    }

    boolean personThere(int p) {
        return p >= 0 && p < state.people.size();
    }

    // ---- kinds

    int leavesAt(State s, One one, int apart) {
        if (apart > 1) {
            return 0;
        }
        int said = says(s, 0, one, one.seat);
        switch (one.kind) {
            case 0: return apart == 0 ? said : 0;
            case 1: return apart == 0 ? said : said / 2;
            case 2: return apart == 0 && said > 0 ? 1 : 0;
            case 3: return apart == 0 ? said + one.more + one.more : said / 2;
            case 4: return apart == 0 ? 0 - one.more : 0;
            default: return 0;
        }
    }

    int wears(State s, One one, int c) {
        int said = says(s, 1, one, c);
        switch (one.kind) {
            case 2: case 4: return said / 2;
            case 3: return s.thick[c] > 50 ? 0 : said;
            case 5: return said + one.more;
            default: return said;
        }
    }

    int feels(State s, One one, int c) {
        int said = says(s, 2, one, c);
        switch (one.kind) {
            case 1: case 3: return said + one.more;
            case 2: return said * 2;
            case 4: return said * 2 / 4;
            case 5: return said < 10 ? 0 : said;
            default: return said;
        }
    }

    // ---- texts

    int says(State s, int part, One one, int c) {
        List<String> tokens = texts.get(s.law).get(part);
        int[] at = {0};
        int v = or(tokens, at, word -> {
            switch (word) {
                case "column": return c % 6;
                case "row": return c / 6;
                case "thick": return s.thick[c];
                case "day": return s.day;
                case "held": return one.held;
                default: return one.more;
            }
        });
        return part == 0 ? Math.max(-99, Math.min(99, v)) : Math.max(0, Math.min(99, v));
    }

    interface Names {
        int of(String word);
    }

    private static String peek(List<String> t, int[] at) {
        return at[0] < t.size() ? t.get(at[0]) : "";
    }

    private static boolean eat(List<String> t, int[] at, String s) {
        if (peek(t, at).equals(s)) {
            at[0]++;
            return true;
        }
        return false;
    }

    private static int or(List<String> t, int[] at, Names n) {
        int v = and(t, at, n);
        while (eat(t, at, "or")) {
            int w = and(t, at, n);
            v = v != 0 || w != 0 ? 1 : 0;
        }
        return v;
    }

    private static int and(List<String> t, int[] at, Names n) {
        int v = not(t, at, n);
        while (eat(t, at, "and")) {
            int w = not(t, at, n);
            v = v != 0 && w != 0 ? 1 : 0;
        }
        return v;
    }

    private static int not(List<String> t, int[] at, Names n) {
        if (eat(t, at, "not")) {
            return not(t, at, n) == 0 ? 1 : 0;
        }
        int v = sum(t, at, n);
        if (eat(t, at, "<")) {
            return v < sum(t, at, n) ? 1 : 0;
        }
        return eat(t, at, "=") ? v == sum(t, at, n) ? 1 : 0 : v;
    }

    private static int sum(List<String> t, int[] at, Names n) {
        int v = term(t, at, n);
        while (peek(t, at).equals("+") || peek(t, at).equals("-")) {
            v = eat(t, at, "+") ? v + term(t, at, n) : eat(t, at, "-") ? v - term(t, at, n) : v;
        }
        return v;
    }

    private static int term(List<String> t, int[] at, Names n) {
        int v = one(t, at, n);
        while (eat(t, at, "*")) {
            v *= one(t, at, n);
        }
        return v;
    }

    private static int one(List<String> t, int[] at, Names n) {
        if (eat(t, at, "-")) {
            return -one(t, at, n);
        }
        if (eat(t, at, "(")) {
            int v = or(t, at, n);
            eat(t, at, ")");
            return v;
        }
        String s = t.get(at[0]++);
        return Character.isDigit(s.charAt(0)) ? Integer.parseInt(s) : n.of(s);
    }

    private static final Set<String> NAMES = Set.of("column", "row", "thick", "day", "held", "more");
    private static final Set<String> KEYS = Set.of("leaves", "wears", "feels", "or", "and", "not");

    /** The place of the fault, or -1 (then parts holds the three). */
    static int faultOf(String tape, List<List<String>> parts) {
        int at = 0;
        int part = 0;
        // Modes: 0 the part's word, 1 something that has a worth, 2 what may follow it, 3 only the end.
        int mode = 0;
        boolean notMayStand = false;
        boolean compared = false;
        // Open ( as [compared outside, nots open outside]; nots and minuses that wait now.
        ArrayDeque<int[]> brackets = new ArrayDeque<>();
        int nots = 0;
        int minuses = 0;
        int waitingOutside = 0;
        while (true) {
            while (at < tape.length() && (tape.charAt(at) == 32 || tape.charAt(at) == 10)) {
                at++;
            }
            if (at == tape.length()) {
                return mode == 3 ? -1 : at;
            }
            int end = at;
            char first = tape.charAt(at);
            Predicate<Character> letter = ch -> ch >= 'a' && ch <= 'z';
            Predicate<Character> digit = ch -> ch >= '0' && ch <= '9';
            if (letter.test(first) || digit.test(first)) {
                Predicate<Character> same = letter.test(first) ? letter : digit;
                while (end < tape.length() && same.test(tape.charAt(end))) {
                    end++;
                }
            } else {
                end++;
            }
            String token = tape.substring(at, end);
            boolean known = NAMES.contains(token) || KEYS.contains(token) || "();+-*<=".indexOf(first) >= 0
                || digit.test(first) && token.length() <= 4;
            if (!known || mode == 3) {
                return at;
            }
            int open = brackets.size() + waitingOutside + nots + minuses;
            if (mode == 0) {
                if (!token.equals(new String[] {"leaves", "wears", "feels"}[part])) {
                    return at;
                }
                parts.add(new ArrayList<>());
                mode = 1;
                notMayStand = true;
                compared = false;
                at = end;
                continue;
            }
            if (mode == 1) {
                if (NAMES.contains(token) || digit.test(first)) {
                    mode = 2;
                    minuses = 0;
                } else if (token.equals("not") && notMayStand && open < 5) {
                    nots++;
                } else if (token.equals("-") && open < 5) {
                    minuses++;
                    notMayStand = false;
                } else if (token.equals("(") && open < 5) {
                    brackets.push(new int[] {compared ? 1 : 0, nots, minuses});
                    waitingOutside += nots + minuses;
                    nots = 0;
                    minuses = 0;
                    compared = false;
                    notMayStand = true;
                } else {
                    return at;
                }
                parts.get(part).add(token);
                at = end;
                continue;
            }
            if (token.equals(";") && brackets.isEmpty()) {
                part++;
                nots = 0;
                mode = part == 3 ? 3 : 0;
                at = end;
                continue;
            }
            if (token.equals(")") && !brackets.isEmpty()) {
                int[] outside = brackets.pop();
                compared = outside[0] == 1;
                nots = outside[1];
                waitingOutside -= outside[1] + outside[2];
                minuses = 0;
            } else if (token.equals("or") || token.equals("and")) {
                nots = 0;
                compared = false;
                notMayStand = true;
                mode = 1;
            } else if ((token.equals("<") || token.equals("=")) && !compared) {
                compared = true;
                notMayStand = false;
                mode = 1;
            } else if ("+-*".contains(token)) {
                notMayStand = false;
                mode = 1;
            } else {
                return at;
            }
            parts.get(part).add(token);
            at = end;
        }
    }

    // ---- the room, the law, people

    int count(int what) {
        int[] all = {state.people.size(), state.day, state.all(), texts.size(), state.law, tape.length()};
        return what < 0 || what > 5 ? -2 : all[what];
    }

    int lay(int c, int v) {
        if (!cellThere(c)) {
            return -5;
        }
        if (v < 0 || v > 999) {
            return -7;
        }
        int was = state.thick[c];
        state.thick[c] = v;
        return was;
    }

    int under(int c) {
        return cellThere(c) ? state.thick[c] : -5;
    }

    int feed(int n, int... bytes) {
        boolean bad = n < 1 || n > 5;
        for (int b : bytes) {
            bad |= b < 0 || b > 255;
        }
        if (bad) {
            return -2;
        }
        if (tape.length() + n > 160) {
            return -4;
        }
        for (int i = 0; i < n; i++) {
            tape += (char) bytes[i];
        }
        return tape.length();
    }

    int text() {
        if (texts.size() == 6) {
            return -4;
        }
        List<List<String>> parts = new ArrayList<>();
        int fault = faultOf(tape, parts);
        tape = "";
        if (fault >= 0) {
            return -100 - fault;
        }
        texts.add(parts);
        return texts.size() - 1;
    }

    int force(int t) {
        if (t < 0 || t >= texts.size()) {
            return -2;
        }
        int was = state.law;
        state.law = t;
        return was;
    }

    int asks(int part, int p, int c) {
        if (part < 0 || part > 2 || !personThere(p) || !cellThere(c)) {
            return -1000;
        }
        return says(state, part, state.people.get(p), c);
    }

    int person(int kindMore, int seatHeld) {
        if (kindMore < 0 || kindMore > 59 || seatHeld < 0 || seatHeld > 3599) {
            return -2;
        }
        if (state.people.size() == 6) {
            return -4;
        }
        state.people.add(new One(kindMore / 10, kindMore % 10, seatHeld / 100, seatHeld % 100));
        return state.people.size() - 1;
    }

    int put(int p, int what, int v) {
        if (!personThere(p)) {
            return -5;
        }
        One one = state.people.get(p);
        if (what == 0 && cellThere(v)) {
            state.people.set(p, new One(one.kind, one.more, v, one.held));
            return one.seat;
        }
        if (what == 1 && v >= 0 && v <= 99) {
            state.people.set(p, new One(one.kind, one.more, one.seat, v));
            return one.held;
        }
        return -7;
    }

    int told(int p, int what) {
        if (!personThere(p)) {
            return -5;
        }
        One one = state.people.get(p);
        return what < 0 || what > 3 ? -7 : new int[] {one.seat, one.held, one.kind, one.more}[what];
    }

    // ---- days

    void pass(State s) {
        for (One one : s.people) {
            int[] left = new int[36];
            for (int c = 0; c < 36; c++) {
                left[c] = leavesAt(s, one, apart(one.seat, c));
            }
            for (int c = 0; c < 36; c++) {
                s.thick[c] = Math.min(999, Math.max(0, s.thick[c] + left[c]));
            }
        }
        s.day++;
    }

    State behind(State from, int days) {
        State s = from.copy();
        for (int i = 0; i < days; i++) {
            pass(s);
        }
        return s;
    }

    int day() {
        if (state.day == 999) {
            return -3;
        }
        pass(state);
        return state.all();
    }

    int leaves(int p, int c, int what) {
        if (!personThere(p)) {
            return -1005;
        }
        if (!cellThere(c) || what < 0 || what > 1) {
            return -1007;
        }
        One one = state.people.get(p);
        return what == 0 ? leavesAt(state, one, apart(c, one.seat))
            : leavesAt(state, one, 0) + beside(one.seat).size() * leavesAt(state, one, 1);
    }

    int run(int n, int what) {
        if (n < 0 || n > 40 || what < 0 || what > 36) {
            return -2;
        }
        State s = behind(state, n);
        return what == 36 ? s.all() : s.thick[what];
    }

    int sinks(int c, int need) {
        if (!cellThere(c)) {
            return -5;
        }
        if (need < 0 || need > 999) {
            return -7;
        }
        State s = state.copy();
        for (int n = 0; n <= 40; n++) {
            if (s.thick[c] >= need) {
                return n;
            }
            pass(s);
        }
        return -1;
    }

    // ---- walks

    /** The numbers of a sheet, null if it is missing. */
    int[] row(int s) {
        Object sheet = sheets[s];
        if (sheet == null) {
            return null;
        }
        int n = java.lang.reflect.Array.getLength(sheet);
        int[] row = new int[n];
        for (int i = 0; i < n; i++) {
            row[i] = java.lang.reflect.Array.getInt(sheet, i);
        }
        return row;
    }

    int walkRefused(int s, int p) {
        if (s < 0 || s > 3) {
            return -2;
        }
        int[] row = row(s);
        if (row == null) {
            return -11;
        }
        for (int i = 0; i < row.length; i++) {
            if (!cellThere(row[i]) || i > 0 && !beside(row[i - 1]).contains(row[i])) {
                return -2;
            }
        }
        return personThere(p) ? 0 : -5;
    }

    int walk(int s, int p, int what) {
        int refused = walkRefused(s, p);
        if (refused != 0) {
            return refused;
        }
        if (what < 0 || what > 3) {
            return -7;
        }
        List<Integer> felt = new ArrayList<>();
        for (int c : row(s)) {
            felt.add(feels(state, state.people.get(p), c));
        }
        int most = felt.stream().mapToInt(f -> f).max().orElse(0);
        switch (what) {
            case 0: return felt.stream().mapToInt(f -> f).sum();
            case 1: return most;
            case 2: return felt.indexOf(most);
            default: return (int) felt.stream().filter(f -> f == 0).count();
        }
    }

    int tread(int s, int p) {
        int refused = walkRefused(s, p);
        if (refused != 0) {
            return refused;
        }
        int before = state.all();
        for (int c : row(s)) {
            state.thick[c] = Math.max(0, state.thick[c] - wears(state, state.people.get(p), c));
        }
        return before - state.all();
    }

    int way(int p, int cells, int limit, int what) {
        if (!personThere(p)) {
            return -5;
        }
        if (cells < 0 || cells > 3599 || cells % 100 > 35 || limit < 0 || limit > 999 || what < 0 || what > 1) {
            return -7;
        }
        int from = cells / 100;
        int to = cells % 100;
        int[] cost = new int[36];
        for (int c = 0; c < 36; c++) {
            int felt = feels(state, state.people.get(p), c);
            cost[c] = what == 0 ? felt : felt <= limit ? 1 : 1000000;
        }
        // Dijkstra.
        int[] best = new int[36];
        java.util.Arrays.fill(best, Integer.MAX_VALUE);
        TreeSet<Long> queue = new TreeSet<>();
        best[from] = cost[from];
        queue.add(cost[from] * 100L + from);
        while (!queue.isEmpty()) {
            int c = (int) (queue.pollFirst() % 100);
            for (int d : beside(c)) {
                if (best[c] + cost[d] < best[d]) {
                    best[d] = best[c] + cost[d];
                    queue.add(best[d] * 100L + d);
                }
            }
        }
        return what == 1 && best[to] >= 1000000 ? -1 : best[to];
    }

    Set<Integer> heapOf(int c, int least) {
        Set<Integer> found = new HashSet<>();
        ArrayDeque<Integer> ahead = new ArrayDeque<>(List.of(c));
        while (!ahead.isEmpty()) {
            int d = ahead.pop();
            if (state.thick[d] >= least && found.add(d)) {
                ahead.addAll(beside(d));
            }
        }
        return found;
    }

    long heap(int c, int least, int what) {
        if (!cellThere(c) || least < 0 || least > 999 || what < 0 || what > 2) {
            return NO;
        }
        Set<Integer> cells = heapOf(c, least);
        long sum = 0;
        for (int d : cells) {
            sum += what == 0 ? 1L << d : what == 1 ? 1 : state.thick[d];
        }
        return sum;
    }

    int room(int least, int what) {
        if (least < 0 || least > 999 || what < 0 || what > 2) {
            return -2;
        }
        int most = 0;
        int fewest = 0;
        Set<Set<Integer>> heaps = new HashSet<>();
        for (int c = 35; c >= 0; c--) {
            most = state.thick[c] >= state.thick[most] ? c : most;
            fewest = state.thick[c] <= state.thick[fewest] ? c : fewest;
            heaps.add(heapOf(c, least));
        }
        heaps.remove(Set.of());
        for (int c = 0; c < 36; c++) {
            if (state.thick[c] == state.thick[most]) {
                most = Math.min(most, c);
            }
            if (state.thick[c] == state.thick[fewest]) {
                fewest = Math.min(fewest, c);
            }
        }
        return what == 0 ? most : what == 1 ? fewest : heaps.size();
    }

    // ---- what is best

    int turn(int n, int what) {
        if (n < 0 || n > 40 || what < 0 || what > 1) {
            return -2;
        }
        long best = Long.MAX_VALUE;
        for (int p = 0; p < state.people.size(); p++) {
            State s = state.copy();
            s.people.remove(p);
            best = Math.min(best, 100L * behind(s, n).all() + p);
        }
        if (best == Long.MAX_VALUE) {
            return what == 0 ? -1 : state.all();
        }
        return (int) (what == 0 ? best % 100 : best / 100);
    }

    State with(int p, One one) {
        State s = state.copy();
        s.people.set(p, one);
        return s;
    }

    One sitting(int p, int c) {
        One one = state.people.get(p);
        return new One(one.kind, one.more, c, one.held);
    }

    int seats(int p, int n, int what) {
        if (!personThere(p)) {
            return -5;
        }
        if (n < 0 || n > 20 || what < 0 || what > 1) {
            return -7;
        }
        long best = Long.MAX_VALUE;
        for (int c = 0; c < 36; c++) {
            int most = java.util.Arrays.stream(behind(with(p, sitting(p, c)), n).thick).max().orElse(0);
            best = Math.min(best, 100L * most + c);
        }
        return (int) (what == 0 ? best % 100 : best / 100);
    }

    // ---- told days

    int taleRefused(int s, int c) {
        if (s < 0 || s > 3) {
            return -2;
        }
        if (row(s) == null) {
            return -11;
        }
        if (row(s).length > 20) {
            return -2;
        }
        return cellThere(c) ? 0 : -5;
    }

    int otherwise(State from, int s, int c) {
        int[] row = row(s);
        State then = from.copy();
        for (int i = 0; i < row.length; i++) {
            pass(then);
            if (then.thick[c] != row[i]) {
                return i;
            }
        }
        return -1;
    }

    int judge(int s, int c) {
        int refused = taleRefused(s, c);
        return refused != 0 ? refused : otherwise(state, s, c);
    }

    int kinds(int s, int c, int p, int sort) {
        int refused = taleRefused(s, c);
        if (refused != 0) {
            return refused;
        }
        if (!personThere(p)) {
            return -6;
        }
        if (sort < 0 || sort > 1) {
            return -7;
        }
        One one = state.people.get(p);
        int bits = 0;
        for (int v = 0; v < (sort == 0 ? 6 : 10); v++) {
            One other = sort == 0 ? new One(v, one.more, one.seat, one.held) : new One(one.kind, v, one.seat, one.held);
            bits += otherwise(with(p, other), s, c) == -1 ? 1 << v : 0;
        }
        return bits;
    }

    long where(int s, int c, int p) {
        if (taleRefused(s, c) != 0 || !personThere(p)) {
            return NO;
        }
        long bits = 0;
        for (int v = 0; v < 36; v++) {
            bits += otherwise(with(p, sitting(p, v)), s, c) == -1 ? 1L << v : 0;
        }
        return bits;
    }

    int holds(int s, int c, int p, int what) {
        int refused = taleRefused(s, c);
        if (refused != 0) {
            return refused;
        }
        if (!personThere(p)) {
            return -6;
        }
        if (what < 0 || what > 1) {
            return -7;
        }
        One one = state.people.get(p);
        List<Integer> fit = new ArrayList<>();
        for (int v = 0; v < 100; v++) {
            if (otherwise(with(p, new One(one.kind, one.more, one.seat, v)), s, c) == -1) {
                fit.add(v);
            }
        }
        return what == 0 ? fit.size() : fit.isEmpty() ? -1 : fit.get(0);
    }

    int laws(int s, int c) {
        int refused = taleRefused(s, c);
        if (refused != 0) {
            return refused;
        }
        int bits = 0;
        for (int t = 0; t < texts.size(); t++) {
            State other = state.copy();
            other.law = t;
            bits += otherwise(other, s, c) == -1 ? 1 << t : 0;
        }
        return bits;
    }

    int film(int s, int c, int n) {
        if (s < 0 || s > 3) {
            return -2;
        }
        if (!cellThere(c)) {
            return -5;
        }
        if (n < 0 || n > 20) {
            return -7;
        }
        short[] row = new short[n];
        for (int i = 0; i < n; i++) {
            row[i] = (short) behind(state, i + 1).thick[c];
        }
        sheets[s] = row;
        return n;
    }

    // ---- callers by lots, shares

    int[] caller(int seed, int p, int cellSteps) {
        State s = state.copy();
        One one = s.people.get(p);
        int c = cellSteps / 100;
        int felt = 0;
        BigInteger lot = BigInteger.valueOf(seed + 1L);
        for (int i = 0; i < cellSteps % 100; i++) {
            felt += feels(s, one, c);
            s.thick[c] = Math.max(0, s.thick[c] - wears(s, one, c));
            lot = lot.multiply(BigInteger.valueOf(48271)).mod(BigInteger.valueOf(2147483647));
            int turn = lot.mod(BigInteger.valueOf(4)).intValue();
            int next = c + new int[] {1, -1, 6, -6}[turn];
            c = cellThere(next) && apart(c, next) == 1 ? next : c;
        }
        return new int[] {felt, c};
    }

    int drawn(int seed, int p, int cellSteps, int what) {
        if (!personThere(p)) {
            return -5;
        }
        if (seed < 0 || seed > 99999 || cellSteps < 0 || cellSteps > 3599 || what < 0 || what > 1) {
            return -7;
        }
        return caller(seed, p, cellSteps)[what];
    }

    static long fraction(int above, int below, int part) {
        BigInteger a = BigInteger.valueOf(above);
        BigInteger b = BigInteger.valueOf(below);
        return (part == 0 ? a : b).divide(a.gcd(b)).longValue();
    }

    long odds(int seedSeeds, int p, int cellSteps, int least, int part) {
        int seeds = seedSeeds % 100;
        if (seedSeeds < 0 || seedSeeds / 100 > 99999 || seeds < 1 || seeds > 40 || !personThere(p) || cellSteps < 0
                || cellSteps > 3599 || least < 0 || least > 99999 || part < 0 || part > 1) {
            return NO;
        }
        int enough = 0;
        for (int i = 0; i < seeds; i++) {
            enough += caller(seedSeeds / 100 + i, p, cellSteps)[0] >= least ? 1 : 0;
        }
        return fraction(enough, seeds, part);
    }

    long share(int row, int part) {
        if (row < 0 || row > 5 || part < 0 || part > 1 || state.all() == 0) {
            return NO;
        }
        int sum = 0;
        for (int c = 0; c < 36; c++) {
            sum += c / 6 == row ? state.thick[c] : 0;
        }
        return fraction(sum, state.all(), part);
    }

    int image() {
        image = state.copy();
        return state.people.size();
    }

    int back() {
        if (image == null) {
            return -3;
        }
        state = image.copy();
        return state.people.size();
    }

    // ---- the host

    int sheet(int s, int sort, int n) {
        if (s < 0 || s > 3 || sort < -1 || sort > 2) {
            return -2;
        }
        if (sort >= 0 && n > 40) {
            return -2;
        }
        try {
            sheets[s] = sort == -1 ? null : sort == 0 ? new byte[n] : sort == 1 ? new short[n] : new int[n];
            return 1;
        } catch (NegativeArraySizeException e) {
            return -14;
        }
    }

    int cell(int s, int i, int v) {
        if (s < 0 || s > 3) {
            return -2;
        }
        try {
            Object row = sheets[s];
            if (row instanceof byte[] bytes) {
                bytes[i] = (byte) v;
            } else if (row instanceof short[] shorts) {
                shorts[i] = (short) v;
            } else {
                ((int[]) row)[i] = v;
            }
            return 1;
        } catch (NullPointerException e) {
            return -11;
        } catch (ArrayIndexOutOfBoundsException e) {
            return -12;
        }
    }

    int copy(int s, int i, int other, int j, int n) {
        if (s < 0 || s > 3 || other < 0 || other > 3) {
            return -2;
        }
        try {
            System.arraycopy(sheets[s], i, sheets[other], j, n);
            return n;
        } catch (NullPointerException e) {
            return -11;
        } catch (ArrayStoreException e) {
            return -13;
        } catch (ArrayIndexOutOfBoundsException e) {
            return -12;
        }
    }

    int peopleBy(int s, int sort, int from, int n) {
        if (s < 0 || s > 3 || sort < 0 || sort > 2 || n < 0 || n > 6) {
            return -2;
        }
        int[] row = row(s);
        if (row == null) {
            return -11;
        }
        if (sheets[s].getClass() != new Class<?>[] {byte[].class, short[].class, int[].class}[sort]) {
            return -13;
        }
        int came = 0;
        try {
            for (int k = 0; k < n; k++) {
                came += person(row[from + 2 * k], row[from + 2 * k + 1]) >= 0 ? 1 : 0;
            }
            return came;
        } catch (ArrayIndexOutOfBoundsException e) {
            return -12;
        }
    }

    int taken(int i, int kind) {
        if (kind < 0 || kind > 6) {
            return -2;
        }
        if (i < 0 || i > 41) {
            return -12;
        }
        if (i > 5) {
            return kind == 6 ? state.thick[i - 6] : -13;
        }
        if (!personThere(i)) {
            return -11;
        }
        int own = state.people.get(i).kind;
        boolean is = kind == 0 || kind == own || kind == 1 && own == 3 || kind == 2 && own == 4;
        return is ? i : -13;
    }
}
