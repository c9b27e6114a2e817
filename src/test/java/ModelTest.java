import java.util.Random;

/** Many runs of drawn calls: the class and the model must answer alike, whatever came before. */
public final class ModelTest {
    private static final Checks DUE = new Checks();
    private static final int RUNS = 120, CALLS = 512;
    private static final String[] WORDS = {
        "column", "row", "thick", "day", "held", "more", "0", "1", "2", "7", "50", "999", "9999", "(", ")", "not", "-",
        "+", "*", "<", "=", "or", "and", ";", "leaves", "wears", "feels", "10000", "x", "#", " ", "\n"};

    private final Random random;
    private final UnderlayOfUnspoken x = new UnderlayOfUnspoken();
    private final Model m = new Model();
    private final String name;
    /** The share of numbers, in a hundred, that are not as told. */
    private final int wild;

    private ModelTest(int seed) {
        random = new Random(seed);
        name = "run " + seed + ": ";
        wild = seed % 3 == 0 ? 8 : 1;
    }

    public static void main(String[] args) {
        for (int seed = 0; seed < RUNS; seed++) {
            new ModelTest(seed).play();
        }
        faults();
        DUE.end();
    }

    private int to(int most) {
        if (random.nextInt(100) < wild) {
            int[] odd = {-1, most + 1, -2, most + 2, Integer.MIN_VALUE, Integer.MAX_VALUE, -100, 100};
            return odd[random.nextInt(odd.length)];
        }
        return random.nextInt(most + 1);
    }

    private int cellOne() {
        return to(35);
    }

    private int anyone() {
        return random.nextInt(20) == 0 ? to(5) : random.nextInt(Math.max(1, m.state.people.size()));
    }

    private void same(String call, long got, long due) {
        DUE.same(name + call, got, due);
    }

    private void play() {
        int first = random.nextInt(7);
        for (int i = 0; i < first; i++) {
            person();
        }
        for (int i = 0; i < 10; i++) {
            lay(random.nextInt(36), random.nextInt(i < 5 ? 30 : 200));
        }
        int used = first + 10;
        while (used < CALLS) {
            used += turn();
        }
    }

    private void person() {
        int a = to(59);
        int b = random.nextBoolean() ? to(3599) : 700 + to(99) + 100 * random.nextInt(3);
        same("person " + a + " " + b, x.person(a, b), m.person(a, b));
    }

    private void lay(int c, int v) {
        same("lay " + c + " " + v, x.lay(c, v), m.lay(c, v));
    }

    private String expression(int depth) {
        switch (random.nextInt(depth <= 0 ? 3 : 14)) {
            case 0: case 1: return WORDS[random.nextInt(6)];
            case 2: return "" + random.nextInt(random.nextBoolean() ? 10 : 2000);
            case 3: return "(" + expression(depth - 1) + ")";
            case 4: return "-" + WORDS[random.nextInt(6)];
            case 5: return "(not " + expression(depth - 1) + ")";
            case 6: return expression(depth - 1) + " or " + expression(depth - 1);
            case 7: return expression(depth - 1) + " and " + expression(depth - 1);
            case 8: return "(" + expression(depth - 1) + ")<(" + expression(depth - 1) + ")";
            case 9: return "(" + expression(depth - 1) + "=" + expression(depth - 1) + ")";
            case 10: return expression(depth - 1) + "*" + expression(depth - 1);
            case 11: return expression(depth - 1) + "-" + expression(depth - 1);
            default: return expression(depth - 1) + "+" + expression(depth - 1);
        }
    }

    private String drawnText() {
        String text = "leaves " + expression(3) + ";wears " + expression(1) + ";feels " + expression(2) + ";";
        if (random.nextInt(3) == 0) {
            int at = random.nextInt(text.length());
            text = text.substring(0, at) + WORDS[random.nextInt(WORDS.length)] + text.substring(at + random.nextInt(2));
        }
        return text;
    }

    private int text() {
        String text = drawnText();
        int calls = 1;
        for (int i = 0; i < text.length(); i += 5) {
            int n = Math.min(5, text.length() - i);
            int[] b = new int[5];
            for (int k = 0; k < n; k++) {
                b[k] = text.charAt(i + k);
            }
            same("feed", x.feed(n, b[0], b[1], b[2], b[3], b[4]), m.feed(n, b));
            calls++;
        }
        same("text \"" + m.tape + "\"", x.text(), m.text());
        int t = to(m.texts.size() - 1);
        same("force " + t, x.force(t), m.force(t));
        return calls + 1;
    }

    private int tale(int s) {
        int c = cellOne();
        int n = random.nextBoolean() ? 1 + random.nextInt(3) : to(20);
        same("film " + s + " " + c + " " + n, x.film(s, c, n), m.film(s, c, n));
        int i = random.nextInt(25);
        int v = random.nextInt(1000);
        if (random.nextInt(3) == 0) {
            same("cell", x.cell(s, i, v), m.cell(s, i, v));
        }
        int p = anyone();
        int what = to(1);
        if (random.nextInt(4) == 0) {
            int held = to(99);
            same("put", x.put(p, 1, held), m.put(p, 1, held));
        }
        String of = s + " " + c + " " + p + " " + what;
        same("judge " + of, x.judge(s, c), m.judge(s, c));
        same("kinds " + of, x.kinds(s, c, p, what), m.kinds(s, c, p, what));
        same("where " + of, x.where(s, c, p), m.where(s, c, p));
        same("holds " + of, x.holds(s, c, p, what), m.holds(s, c, p, what));
        same("laws " + of, x.laws(s, c), m.laws(s, c));
        return 7;
    }

    private int path(int s) {
        int n = random.nextInt(12);
        int sort = random.nextInt(3);
        same("sheet", x.sheet(s, sort, n), m.sheet(s, sort, n));
        int c = random.nextInt(36);
        for (int i = 0; i < n; i++) {
            same("cell", x.cell(s, i, c), m.cell(s, i, c));
            java.util.List<Integer> next = Model.beside(c);
            c = random.nextInt(60) == 0 ? to(35) : Model.cellThere(c) ? next.get(random.nextInt(next.size())) : 0;
        }
        int p = anyone();
        int what = to(3);
        same("walk " + s + " " + p + " " + what, x.walk(s, p, what), m.walk(s, p, what));
        same("tread " + s + " " + p, x.tread(s, p), m.tread(s, p));
        same("count 2", x.count(2), m.count(2));
        return n + 4;
    }

    private int people(int s) {
        int n = random.nextInt(14);
        int sort = random.nextInt(3);
        int calls = 0;
        if (random.nextBoolean()) {
            same("sheet", x.sheet(s, sort, n), m.sheet(s, sort, n));
            for (int i = 0; i < n; i++) {
                int v = i % 2 == 0 ? to(62) : to(3650);
                same("cell", x.cell(s, i, v), m.cell(s, i, v));
            }
            calls = n + 1;
        }
        int from = to(4);
        int many = to(3);
        same("peopleBy " + s + " " + sort + " " + from + " " + many,
            x.peopleBy(s, sort, from, many), m.peopleBy(s, sort, from, many));
        same("count 0", x.count(0), m.count(0));
        return calls + 2;
    }

    private int turn() {
        int s = random.nextInt(40) == 0 ? to(3) : random.nextInt(4);
        int c = cellOne();
        int p = anyone();
        int a = to(1);
        switch (random.nextInt(32)) {
            case 0: return text();
            case 1: return s < 0 || s > 3 ? 1 : tale(s);
            case 2: return s < 0 || s > 3 ? 1 : path(s);
            case 3: return s < 0 || s > 3 ? 1 : people(s);
            case 4: person(); return 1;
            case 5: lay(c, random.nextInt(9) == 0 ? to(999) : to(120)); return 1;
            case 6: same("day", x.day(), m.day()); return 1;
            case 7: { int w = to(5); same("count " + w, x.count(w), m.count(w)); return 1; }
            case 8: same("under", x.under(c), m.under(c)); return 1;
            case 9: { int w = to(2); same("asks " + w + " " + p + " " + c, x.asks(w, p, c), m.asks(w, p, c)); return 1; }
            case 10: { int v = a == 0 ? to(35) : to(99); same("put", x.put(p, a, v), m.put(p, a, v)); return 1; }
            case 11: { int w = to(3); same("told", x.told(p, w), m.told(p, w)); return 1; }
            case 12: same("leaves " + p + " " + c, x.leaves(p, c, a), m.leaves(p, c, a)); return 1;
            case 13: { int n = to(40); int w = to(36); same("run " + n + " " + w, x.run(n, w), m.run(n, w)); return 1; }
            case 14: { int n = to(999); n = n > 200 && n < 990 ? n / 9 : n;
                same("sinks " + c + " " + n, x.sinks(c, n), m.sinks(c, n)); return 1; }
            case 15: case 16: { int w = random.nextInt(15) == 0 ? to(3599) : 100 * random.nextInt(36) + to(35); int l = to(150);
                same("way " + p + " " + w + " " + l + " " + a, x.way(p, w, l, a), m.way(p, w, l, a)); return 1; }
            case 17: { int l = to(60); int w = to(2);
                same("heap " + c + " " + l + " " + w, x.heap(c, l, w), m.heap(c, l, w)); return 1; }
            case 18: { int l = to(60); int w = to(2); same("room " + l + " " + w, x.room(l, w), m.room(l, w)); return 1; }
            case 19: { int n = to(40); same("turn " + n + " " + a, x.turn(n, a), m.turn(n, a)); return 1; }
            case 20: { int n = to(20); same("seats " + p + " " + n, x.seats(p, n, a), m.seats(p, n, a)); return 1; }
            case 21: { int w = to(99999); int k = to(3599);
                same("drawn " + w + " " + p + " " + k, x.drawn(w, p, k, a), m.drawn(w, p, k, a)); return 1; }
            case 22: { int w = 100 * to(99999) + random.nextInt(42); int k = to(3599); int l = to(600);
                same("odds " + w + " " + p + " " + k + " " + l, x.odds(w, p, k, l, a), m.odds(w, p, k, l, a)); return 1; }
            case 23: { int w = to(5); same("share " + w, x.share(w, a), m.share(w, a)); return 1; }
            case 24: if (random.nextInt(3) == 0) { same("image", x.image(), m.image()); } return 1;
            case 25: if (random.nextInt(3) == 0) { same("back", x.back(), m.back()); } return 1;
            case 26: { int w = random.nextInt(5) - 1; int n = to(40); same("sheet", x.sheet(s, w, n), m.sheet(s, w, n)); return 1; }
            case 27: { int i = to(10); int v = random.nextInt(9) == 0 ? random.nextInt() : to(999);
                same("cell", x.cell(s, i, v), m.cell(s, i, v)); return 1; }
            case 28: case 29: { int o = random.nextInt(4); int i = to(4); int j = to(4); int n = to(6);
                same("copy", x.copy(s, i, o, j, n), m.copy(s, i, o, j, n)); return 1; }
            case 30: { int i = to(41); int k = random.nextInt(8) - (wild > 4 ? 1 : 0);
                same("taken " + i + " " + k, x.taken(i, k), m.taken(i, k)); return 1; }
            default: { int w = to(3); same("walk", x.walk(s, p, w), m.walk(s, p, w));
                same("judge", x.judge(s, c), m.judge(s, c)); return 2; }
        }
    }

    /** Rows of drawn tokens, mostly such as may follow one another. */
    private static void faults() {
        Random random = new Random(77);
        for (int run = 0; run < 20000; run++) {
            StringBuilder text = new StringBuilder(random.nextInt(9) == 0 ? "" : "leaves ");
            int tokens = random.nextInt(40);
            boolean worth = true;
            for (int i = 0; i < tokens && text.length() < 130; i++) {
                String[] next = worth
                    ? new String[] {"1", "day", "thick ", "(", "(", "-", "-", "not ", "not "}
                    : new String[] {"+", "-", "*", "<", "=", " or ", " and ", ")", ")", ")"};
                String token = random.nextInt(60) == 0 ? WORDS[random.nextInt(WORDS.length)] : next[random.nextInt(next.length)];
                text.append(token);
                worth = worth ? "1day thick ".contains(token) ? false : true : token.equals(")") ? false : true;
            }
            text.append(random.nextInt(3) == 0 ? "" : worth ? "2" : "").append(";wears 1;feels 1;");
            UnderlayOfUnspoken x = new UnderlayOfUnspoken();
            Model m = new Model();
            Checks.feed(x, text.toString());
            m.tape = text.toString();
            DUE.same("text \"" + text + "\"", x.text(), m.text());
        }
    }
}
