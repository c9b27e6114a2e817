import java.util.Arrays;

public final class UnderlayOfUnspoken {
    public static final int NONE = -1, BAD = -2, STATE = -3, FULL = -4;
    public static final long NO = -4611686018427387904L;

    private static final int NO_SUCH = -5, NO_SUCH_PERSON = -6, WRONG_NUMBER = -7;
    private static final int NOTHING_THERE = -11, OUTSIDE = -12, OTHER_SORT = -13, SIZE_BELOW_ZERO = -14;
    private static final int SAYS_NONE = -1000, LEAVES_NO_SUCH = -1005, LEAVES_WRONG_NUMBER = -1007;
    private static final int GRANTED = 0;

    private static final int CELLS = 36, SIDE = 6, DIRECTIONS = 4;
    // More than any way can feel: 36 cells of at most 198.
    private static final int UNREACHED = 1000000;
    private static final int MOST_PEOPLE = 6, MOST_TEXTS = 6, KINDS = 6, MORES = 10, HELDS = 100;
    private static final int MOST_THICK = 999, LAST_DAY = 999;
    private static final int MOST_DAYS = 40, MOST_TOLD_DAYS = 20;
    private static final int MOST_SEED = 99999, MOST_SEEDS = 40, MOST_FELT_ASKED = 99999;
    private static final int SHEETS = 4, SHEET_SIZE = 40, MISSING = -1, SHORTS = 1, INTS = 2;
    private static final int TAPE_SIZE = 160, MOST_OPEN = 5;

    // What told() asks of one of the people is also the row in which a room keeps it.
    private static final int SEAT = 0, HELD = 1, KIND = 2, MORE = 3, TRAITS = 4;
    private static final int PART_LEAVES = 0, PART_WEARS = 1, PART_FEELS = 2, PARTS = 3;

    // Cells as bits: the masks keep a cell at a row's end from touching the next row.
    private static final long FIRST_COLUMN = 0x41041041L, LAST_COLUMN = FIRST_COLUMN << 5;

    private final Reader reader;
    private final Text[] texts;
    private final Person[] kindTable;
    private final Sheet[] sheets;
    private final Room now;
    private final Room thought;
    private final Room kept;
    private boolean hasImage;
    private int textCount;

    public UnderlayOfUnspoken() {
        Text[] book = new Text[MOST_TEXTS];
        for (int i = 0; i < MOST_TEXTS; i++) {
            book[i] = new Text();
        }
        Person[] table = {new Person(), new Aunt(), new Child(), new Widow(), new Talker(), new Caller()};
        reader = new Reader();
        texts = book;
        textCount = 1;
        kindTable = table;
        sheets = new Sheet[SHEETS];
        for (int i = 0; i < SHEETS; i++) {
            sheets[i] = new Sheet();
        }
        now = new Room(book, table);
        thought = new Room(book, table);
        kept = new Room(book, table);
    }

    // ---- the room, the law, people

    public int count(int what) {
        switch (what) {
            case 0: return now.people;
            case 1: return now.day;
            case 2: return now.total(0, CELLS);
            case 3: return textCount;
            case 4: return now.law;
            case 5: return reader.size;
            default: return BAD;
        }
    }

    public int lay(int c, int v) {
        if (!isCell(c)) {
            return NO_SUCH;
        }
        if (!within(v, 0, MOST_THICK)) {
            return WRONG_NUMBER;
        }
        int was = now.thick[c];
        now.thick[c] = v;
        return was;
    }

    public int under(int c) {
        return isCell(c) ? now.thick[c] : NO_SUCH;
    }

    public int feed(int n, int a, int b, int c, int d, int e) {
        if (!within(n, 1, 5) || !isByte(a) || !isByte(b) || !isByte(c) || !isByte(d) || !isByte(e)) {
            return BAD;
        }
        if (n > TAPE_SIZE - reader.size) {
            return FULL;
        }
        reader.append(a);
        if (n > 1) {
            reader.append(b);
        }
        if (n > 2) {
            reader.append(c);
        }
        if (n > 3) {
            reader.append(d);
        }
        if (n > 4) {
            reader.append(e);
        }
        return reader.size;
    }

    public int text() {
        if (textCount >= MOST_TEXTS) {
            return FULL;
        }
        boolean sound = reader.readText();
        reader.size = 0;
        if (!sound) {
            return -100 - reader.start;
        }
        texts[textCount].become(reader);
        textCount++;
        return textCount - 1;
    }

    public int force(int t) {
        if (!within(t, 0, textCount - 1)) {
            return BAD;
        }
        int was = now.law;
        now.law = t;
        return was;
    }

    public int asks(int part, int p, int c) {
        if (!within(part, 0, PARTS - 1) || !now.has(p) || !isCell(c)) {
            return SAYS_NONE;
        }
        return now.said(part, p, c);
    }

    public int person(int kindMore, int seatHeld) {
        if (!within(kindMore, 0, KINDS * MORES - 1) || !within(seatHeld, 0, CELLS * HELDS - 1)) {
            return BAD;
        }
        return now.admit(kindMore, seatHeld);
    }

    public int put(int p, int what, int v) {
        if (!now.has(p)) {
            return NO_SUCH;
        }
        if (!within(what, SEAT, HELD) || !within(v, 0, what == SEAT ? CELLS - 1 : HELDS - 1)) {
            return WRONG_NUMBER;
        }
        int was = now.traits[what][p];
        now.traits[what][p] = v;
        return was;
    }

    public int told(int p, int what) {
        if (!now.has(p)) {
            return NO_SUCH;
        }
        return within(what, 0, TRAITS - 1) ? now.traits[what][p] : WRONG_NUMBER;
    }

    // ---- days

    public int day() {
        if (now.day >= LAST_DAY) {
            return STATE;
        }
        now.passDay();
        return now.total(0, CELLS);
    }

    public int leaves(int p, int c, int what) {
        if (!now.has(p)) {
            return LEAVES_NO_SUCH;
        }
        if (!isCell(c) || !within(what, 0, 1)) {
            return LEAVES_WRONG_NUMBER;
        }
        return what == 0 ? now.leftOn(p, c) : now.leftInAll(p);
    }

    public int run(int n, int what) {
        if (!within(n, 0, MOST_DAYS) || !within(what, 0, CELLS)) {
            return BAD;
        }
        thought.takeFrom(now);
        thought.passDays(n);
        return what < CELLS ? thought.thick[what] : thought.total(0, CELLS);
    }

    public int sinks(int c, int need) {
        if (!isCell(c)) {
            return NO_SUCH;
        }
        if (!within(need, 0, MOST_THICK)) {
            return WRONG_NUMBER;
        }
        thought.takeFrom(now);
        for (int days = 0; days <= MOST_DAYS; days++) {
            if (thought.thick[c] >= need) {
                return days;
            }
            thought.passDay();
        }
        return NONE;
    }

    // ---- walks

    public int walk(int s, int p, int what) {
        int refusal = refuseWalk(s, p);
        if (refusal != GRANTED) {
            return refusal;
        }
        if (!within(what, 0, 3)) {
            return WRONG_NUMBER;
        }
        return feltOnWalk(sheets[s], p, what);
    }

    public int tread(int s, int p) {
        int refusal = refuseWalk(s, p);
        if (refusal != GRANTED) {
            return refusal;
        }
        Sheet steps = sheets[s];
        int worn = 0;
        for (int i = 0; i < steps.size; i++) {
            worn += now.wear(p, steps.numbers[i]);
        }
        return worn;
    }

    public int way(int p, int cells, int limit, int what) {
        if (!now.has(p)) {
            return NO_SUCH;
        }
        if (!within(cells, 0, 100 * CELLS - 1) || !isCell(cells % 100)
                || !within(limit, 0, MOST_THICK) || !within(what, 0, 1)) {
            return WRONG_NUMBER;
        }
        int from = cells / 100;
        int to = cells % 100;
        return what == 0 ? now.leastFelt(p, from, to) : now.fewestCells(p, from, to, limit);
    }

    public long heap(int c, int least, int what) {
        if (!isCell(c) || !within(least, 0, MOST_THICK) || !within(what, 0, 2)) {
            return NO;
        }
        long cells = spread(1L << c, now.thickBy(least));
        switch (what) {
            case 0: return cells;
            case 1: return Long.bitCount(cells);
            default: return now.totalOf(cells);
        }
    }

    public int room(int least, int what) {
        if (!within(least, 0, MOST_THICK)) {
            return BAD;
        }
        switch (what) {
            case 0: return now.thickestCell();
            case 1: return now.thinnestCell();
            case 2: return now.heaps(least);
            default: return BAD;
        }
    }

    // ---- what is best

    public int turn(int n, int what) {
        if (!within(n, 0, MOST_DAYS) || !within(what, 0, 1)) {
            return BAD;
        }
        int best = NONE;
        int least = now.total(0, CELLS);
        for (int p = 0; p < now.people; p++) {
            thought.takeFrom(now);
            thought.dismiss(p);
            thought.passDays(n);
            int then = thought.total(0, CELLS);
            if (best == NONE || then < least) {
                best = p;
                least = then;
            }
        }
        return what == 0 ? best : least;
    }

    public int seats(int p, int n, int what) {
        if (!now.has(p)) {
            return NO_SUCH;
        }
        if (!within(n, 0, MOST_TOLD_DAYS) || !within(what, 0, 1)) {
            return WRONG_NUMBER;
        }
        int best = NONE;
        int least = 0;
        for (int c = 0; c < CELLS; c++) {
            suppose(p, SEAT, c);
            thought.passDays(n);
            int then = thought.thick[thought.thickestCell()];
            if (best == NONE || then < least) {
                best = c;
                least = then;
            }
        }
        return what == 0 ? best : least;
    }

    // ---- told days

    public int judge(int s, int c) {
        int refusal = refuseTale(s, c);
        if (refusal != GRANTED) {
            return refusal;
        }
        thought.takeFrom(now);
        return firstOtherwise(sheets[s], c);
    }

    public int kinds(int s, int c, int p, int sort) {
        int refusal = refuseTaleOf(s, c, p);
        if (refusal != GRANTED) {
            return refusal;
        }
        if (!within(sort, 0, 1)) {
            return WRONG_NUMBER;
        }
        return (int) (sort == 0 ? fitting(s, c, p, KIND, KINDS) : fitting(s, c, p, MORE, MORES));
    }

    public long where(int s, int c, int p) {
        return refuseTaleOf(s, c, p) == GRANTED ? fitting(s, c, p, SEAT, CELLS) : NO;
    }

    public int holds(int s, int c, int p, int what) {
        int refusal = refuseTaleOf(s, c, p);
        if (refusal != GRANTED) {
            return refusal;
        }
        if (!within(what, 0, 1)) {
            return WRONG_NUMBER;
        }
        int many = 0;
        int least = NONE;
        for (int held = 0; held < HELDS; held++) {
            suppose(p, HELD, held);
            if (firstOtherwise(sheets[s], c) == NONE) {
                many++;
                least = least == NONE ? held : least;
            }
        }
        return what == 0 ? many : least;
    }

    public int laws(int s, int c) {
        int refusal = refuseTale(s, c);
        if (refusal != GRANTED) {
            return refusal;
        }
        int found = 0;
        for (int t = 0; t < textCount; t++) {
            thought.takeFrom(now);
            thought.law = t;
            if (firstOtherwise(sheets[s], c) == NONE) {
                found |= 1 << t;
            }
        }
        return found;
    }

    public int film(int s, int c, int n) {
        if (!isSheet(s)) {
            return BAD;
        }
        if (!isCell(c)) {
            return NO_SUCH;
        }
        if (!within(n, 0, MOST_TOLD_DAYS)) {
            return WRONG_NUMBER;
        }
        sheets[s].become(SHORTS, n);
        thought.takeFrom(now);
        for (int i = 0; i < n; i++) {
            thought.passDay();
            sheets[s].write(i, thought.thick[c]);
        }
        return n;
    }

    // ---- callers by lots, shares

    public int drawn(int seed, int p, int cellSteps, int what) {
        if (!now.has(p)) {
            return NO_SUCH;
        }
        if (!within(seed, 0, MOST_SEED) || !within(cellSteps, 0, 100 * CELLS - 1) || !within(what, 0, 1)) {
            return WRONG_NUMBER;
        }
        thought.takeFrom(now);
        int felt = thought.wander(seed, p, cellSteps / 100, cellSteps % 100);
        return what == 0 ? felt : thought.wanderer;
    }

    public long odds(int seedSeeds, int p, int cellSteps, int least, int part) {
        if (!within(seedSeeds, 0, 100 * MOST_SEED + 99) || !within(seedSeeds % 100, 1, MOST_SEEDS)
                || !now.has(p) || !within(cellSteps, 0, 100 * CELLS - 1)
                || !within(least, 0, MOST_FELT_ASKED) || !within(part, 0, 1)) {
            return NO;
        }
        int seeds = seedSeeds % 100;
        int enough = 0;
        for (int i = 0; i < seeds; i++) {
            thought.takeFrom(now);
            if (thought.wander(seedSeeds / 100 + i, p, cellSteps / 100, cellSteps % 100) >= least) {
                enough++;
            }
        }
        return lowest(enough, seeds, part);
    }

    public long share(int row, int part) {
        int all = now.total(0, CELLS);
        if (!within(row, 0, SIDE - 1) || !within(part, 0, 1) || all == 0) {
            return NO;
        }
        return lowest(now.total(row * SIDE, row * SIDE + SIDE), all, part);
    }

    public int image() {
        kept.takeFrom(now);
        hasImage = true;
        return now.people;
    }

    public int back() {
        if (!hasImage) {
            return STATE;
        }
        now.takeFrom(kept);
        return now.people;
    }

    // ---- the host

    public int sheet(int s, int sort, int n) {
        if (!isSheet(s) || !within(sort, MISSING, INTS)) {
            return BAD;
        }
        if (sort == MISSING) {
            sheets[s].become(MISSING, 0);
            return 1;
        }
        if (n > SHEET_SIZE) {
            return BAD;
        }
        if (n < 0) {
            return SIZE_BELOW_ZERO;
        }
        sheets[s].become(sort, n);
        return 1;
    }

    public int cell(int s, int i, int v) {
        if (!isSheet(s)) {
            return BAD;
        }
        if (sheets[s].sort == MISSING) {
            return NOTHING_THERE;
        }
        if (!within(i, 0, sheets[s].size - 1)) {
            return OUTSIDE;
        }
        sheets[s].write(i, v);
        return 1;
    }

    public int copy(int s, int i, int other, int j, int n) {
        if (!isSheet(s) || !isSheet(other)) {
            return BAD;
        }
        Sheet from = sheets[s];
        Sheet to = sheets[other];
        if (from.sort == MISSING || to.sort == MISSING) {
            return NOTHING_THERE;
        }
        if (from.sort != to.sort) {
            return OTHER_SORT;
        }
        if (!from.holdsRange(i, n) || !to.holdsRange(j, n)) {
            return OUTSIDE;
        }
        System.arraycopy(from.numbers, i, to.numbers, j, n);
        return n;
    }

    public int peopleBy(int s, int sort, int from, int n) {
        if (!isSheet(s) || !within(sort, 0, INTS) || !within(n, 0, MOST_PEOPLE)) {
            return BAD;
        }
        Sheet row = sheets[s];
        if (row.sort == MISSING) {
            return NOTHING_THERE;
        }
        if (row.sort != sort) {
            return OTHER_SORT;
        }
        int came = 0;
        for (int k = 0; k < n; k++) {
            // A place far out may wrap to below 0, but never back into the row.
            int at = from + 2 * k;
            if (!row.holdsRange(at, 2)) {
                return OUTSIDE;
            }
            if (person(row.numbers[at], row.numbers[at + 1]) >= 0) {
                came++;
            }
        }
        return came;
    }

    public int taken(int i, int kind) {
        if (!within(kind, 0, KINDS)) {
            return BAD;
        }
        if (!within(i, 0, MOST_PEOPLE + CELLS - 1)) {
            return OUTSIDE;
        }
        if (i >= MOST_PEOPLE) {
            return kind == KINDS ? now.thick[i - MOST_PEOPLE] : OTHER_SORT;
        }
        if (!now.has(i)) {
            return NOTHING_THERE;
        }
        return kindTable[now.traits[KIND][i]].isOf(kind) ? i : OTHER_SORT;
    }

    // ---- what several calls share

    private static boolean within(int v, int least, int most) {
        return v >= least && v <= most;
    }

    private static boolean isCell(int c) {
        return within(c, 0, CELLS - 1);
    }

    private static boolean isSheet(int s) {
        return within(s, 0, SHEETS - 1);
    }

    private static boolean isByte(int v) {
        return within(v, 0, 255);
    }

    private int refuseWalk(int s, int p) {
        if (!isSheet(s)) {
            return BAD;
        }
        if (sheets[s].sort == MISSING) {
            return NOTHING_THERE;
        }
        if (!sheets[s].tellsWalk()) {
            return BAD;
        }
        return now.has(p) ? GRANTED : NO_SUCH;
    }

    private int refuseTale(int s, int c) {
        if (!isSheet(s)) {
            return BAD;
        }
        if (sheets[s].sort == MISSING) {
            return NOTHING_THERE;
        }
        if (sheets[s].size > MOST_TOLD_DAYS) {
            return BAD;
        }
        return isCell(c) ? GRANTED : NO_SUCH;
    }

    private int refuseTaleOf(int s, int c, int p) {
        int refusal = refuseTale(s, c);
        if (refusal != GRANTED) {
            return refusal;
        }
        return now.has(p) ? GRANTED : NO_SUCH_PERSON;
    }

    private int feltOnWalk(Sheet steps, int p, int what) {
        int together = 0;
        int most = 0;
        int first = NONE;
        int unfelt = 0;
        for (int i = 0; i < steps.size; i++) {
            int felt = now.felt(p, steps.numbers[i]);
            together += felt;
            if (first == NONE || felt > most) {
                most = felt;
                first = i;
            }
            if (felt == 0) {
                unfelt++;
            }
        }
        switch (what) {
            case 0: return together;
            case 1: return most;
            case 2: return first;
            default: return unfelt;
        }
    }

    private void suppose(int p, int trait, int v) {
        thought.takeFrom(now);
        thought.traits[trait][p] = v;
    }

    private int firstOtherwise(Sheet tale, int c) {
        for (int i = 0; i < tale.size; i++) {
            thought.passDay();
            if (thought.thick[c] != tale.numbers[i]) {
                return i;
            }
        }
        return NONE;
    }

    private long fitting(int s, int c, int p, int trait, int values) {
        long found = 0;
        for (int v = 0; v < values; v++) {
            suppose(p, trait, v);
            if (firstOtherwise(sheets[s], c) == NONE) {
                found |= 1L << v;
            }
        }
        return found;
    }

    private static long lowest(int above, int below, int part) {
        int a = above;
        int b = below;
        for (int k = 0; k < 64 && b != 0; k++) {
            int rest = a % b;
            a = b;
            b = rest;
        }
        int shared = Math.max(1, a);
        return part == 0 ? above / shared : below / shared;
    }

    private static int neighbour(int c, int direction) {
        switch (direction) {
            case 0: return c % SIDE < SIDE - 1 ? c + 1 : NONE;
            case 1: return c % SIDE > 0 ? c - 1 : NONE;
            case 2: return c < CELLS - SIDE ? c + SIDE : NONE;
            default: return c >= SIDE ? c - SIDE : NONE;
        }
    }

    private static int apart(int c, int d) {
        return Math.abs(c % SIDE - d % SIDE) + Math.abs(c / SIDE - d / SIDE);
    }

    private static long grown(long cells) {
        long sideways = ((cells & ~LAST_COLUMN) << 1) | ((cells & ~FIRST_COLUMN) >>> 1);
        return cells | sideways | (cells << SIDE) | (cells >>> SIDE);
    }

    private static long spread(long seed, long allowed) {
        long reached = seed & allowed;
        for (int k = 0; k < CELLS; k++) {
            reached = grown(reached) & allowed;
        }
        return reached;
    }

    /** How all stands: there is one in truth, one in thought, one in the image. */
    private static final class Room {
        private final Text[] texts;
        private final Person[] kindTable;
        private final int[] thick = new int[CELLS];
        private final int[][] traits = new int[TRAITS][MOST_PEOPLE];
        private final int[] names = new int[Reader.NAMES];
        private final int[] costs = new int[CELLS];
        private final int[] sums = new int[CELLS];
        private int people;
        private int day;
        private int law;
        private int wanderer;

        private Room(Text[] texts, Person[] kindTable) {
            this.texts = texts;
            this.kindTable = kindTable;
        }

        private void takeFrom(Room other) {
            System.arraycopy(other.thick, 0, thick, 0, CELLS);
            for (int trait = 0; trait < TRAITS; trait++) {
                System.arraycopy(other.traits[trait], 0, traits[trait], 0, MOST_PEOPLE);
            }
            people = other.people;
            day = other.day;
            law = other.law;
        }

        private boolean has(int p) {
            return within(p, 0, people - 1);
        }

        private int admit(int kindMore, int seatHeld) {
            if (people >= MOST_PEOPLE) {
                return FULL;
            }
            traits[KIND][people] = kindMore / MORES;
            traits[MORE][people] = kindMore % MORES;
            traits[SEAT][people] = seatHeld / HELDS;
            traits[HELD][people] = seatHeld % HELDS;
            people++;
            return people - 1;
        }

        private void dismiss(int p) {
            for (int q = p + 1; q < people; q++) {
                for (int trait = 0; trait < TRAITS; trait++) {
                    traits[trait][q - 1] = traits[trait][q];
                }
            }
            people--;
        }

        private int total(int from, int to) {
            int together = 0;
            for (int c = from; c < to; c++) {
                together += thick[c];
            }
            return together;
        }

        private int totalOf(long cells) {
            int together = 0;
            for (int c = 0; c < CELLS; c++) {
                together += (cells >>> c) % 2 == 1 ? thick[c] : 0;
            }
            return together;
        }

        private int said(int part, int p, int c) {
            names[Reader.COLUMN] = c % SIDE;
            names[Reader.ROW] = c / SIDE;
            names[Reader.THICK] = thick[c];
            names[Reader.DAY] = day;
            names[Reader.HELD_BACK] = traits[HELD][p];
            names[Reader.MORE_OF_ONE] = traits[MORE][p];
            return texts[law].says(part, names);
        }

        private Person kindOf(int p) {
            return kindTable[traits[KIND][p]];
        }

        private int felt(int p, int c) {
            return kindOf(p).feels(said(PART_FEELS, p, c), traits[MORE][p]);
        }

        private int wear(int p, int c) {
            int worn = kindOf(p).wears(said(PART_WEARS, p, c), traits[MORE][p], thick[c]);
            int lost = Math.min(thick[c], worn);
            thick[c] -= lost;
            return lost;
        }

        private int leftOn(int p, int c) {
            int seat = traits[SEAT][p];
            int apart = apart(seat, c);
            if (apart > 1) {
                return 0;
            }
            return kindOf(p).drops(apart, said(PART_LEAVES, p, seat), traits[MORE][p]);
        }

        private int leftInAll(int p) {
            int together = 0;
            for (int c = 0; c < CELLS; c++) {
                together += leftOn(p, c);
            }
            return together;
        }

        private void passDays(int n) {
            for (int i = 0; i < n; i++) {
                passDay();
            }
        }

        private void passDay() {
            for (int p = 0; p < people; p++) {
                leave(p);
            }
            day++;
        }

        private void leave(int p) {
            int seat = traits[SEAT][p];
            // Asked once: what one leaves on the own cell must not change what one leaves beside.
            int said = said(PART_LEAVES, p, seat);
            int beside = kindOf(p).drops(1, said, traits[MORE][p]);
            thicken(seat, kindOf(p).drops(0, said, traits[MORE][p]));
            for (int direction = 0; direction < DIRECTIONS; direction++) {
                int c = neighbour(seat, direction);
                if (c != NONE) {
                    thicken(c, beside);
                }
            }
        }

        private void thicken(int c, int by) {
            thick[c] = Math.max(0, Math.min(MOST_THICK, thick[c] + by));
        }

        private int leastFelt(int p, int from, int to) {
            for (int c = 0; c < CELLS; c++) {
                costs[c] = felt(p, c);
            }
            Arrays.fill(sums, UNREACHED);
            sums[from] = costs[from];
            boolean changed = true;
            for (int round = 0; round < CELLS && changed; round++) {
                changed = false;
                for (int c = 0; c < CELLS; c++) {
                    if (relax(c)) {
                        changed = true;
                    }
                }
            }
            return sums[to];
        }

        private boolean relax(int c) {
            boolean changed = false;
            for (int direction = 0; direction < DIRECTIONS; direction++) {
                int ahead = neighbour(c, direction);
                if (ahead != NONE && sums[ahead] != UNREACHED && sums[ahead] + costs[c] < sums[c]) {
                    sums[c] = sums[ahead] + costs[c];
                    changed = true;
                }
            }
            return changed;
        }

        private int fewestCells(int p, int from, int to, int limit) {
            long allowed = 0;
            for (int c = 0; c < CELLS; c++) {
                if (felt(p, c) <= limit) {
                    allowed |= 1L << c;
                }
            }
            long reached = (1L << from) & allowed;
            for (int cells = 1; cells <= CELLS; cells++) {
                if ((reached >>> to) % 2 == 1) {
                    return cells;
                }
                reached = grown(reached) & allowed;
            }
            return NONE;
        }

        private long thickBy(int least) {
            long cells = 0;
            for (int c = 0; c < CELLS; c++) {
                if (thick[c] >= least) {
                    cells |= 1L << c;
                }
            }
            return cells;
        }

        private int heaps(int least) {
            long left = thickBy(least);
            int many = 0;
            for (int c = 0; c < CELLS; c++) {
                if ((left >>> c) % 2 == 1) {
                    left &= ~spread(1L << c, left);
                    many++;
                }
            }
            return many;
        }

        private int thickestCell() {
            int best = 0;
            for (int c = 1; c < CELLS; c++) {
                best = thick[c] > thick[best] ? c : best;
            }
            return best;
        }

        private int thinnestCell() {
            int best = 0;
            for (int c = 1; c < CELLS; c++) {
                best = thick[c] < thick[best] ? c : best;
            }
            return best;
        }

        private int wander(int seed, int p, int from, int steps) {
            long lot = seed + 1;
            int felt = 0;
            wanderer = from;
            for (int i = 0; i < steps; i++) {
                felt += felt(p, wanderer);
                wear(p, wanderer);
                lot = lot * 48271 % 2147483647;
                int next = neighbour(wanderer, (int) (lot % DIRECTIONS));
                wanderer = next == NONE ? wanderer : next;
            }
            return felt;
        }
    }

    /** The kind that all others are kinds of; what another doesn't tell is as here. */
    private static class Person {
        int drops(int apart, int said, int more) {
            return apart == 0 ? said : 0;
        }

        int wears(int said, int more, int thick) {
            return said;
        }

        int feels(int said, int more) {
            return said;
        }

        boolean isOf(int kind) {
            return kind == 0;
        }
    }

    private static class Aunt extends Person {
        int drops(int apart, int said, int more) {
            return apart == 1 ? said / 2 : super.drops(apart, said, more);
        }

        int feels(int said, int more) {
            return super.feels(said, more) + more;
        }

        boolean isOf(int kind) {
            return kind == 1 || super.isOf(kind);
        }
    }

    private static class Child extends Person {
        int drops(int apart, int said, int more) {
            return apart == 0 && said > 0 ? 1 : 0;
        }

        int wears(int said, int more, int thick) {
            return super.wears(said, more, thick) / 2;
        }

        int feels(int said, int more) {
            return 2 * super.feels(said, more);
        }

        boolean isOf(int kind) {
            return kind == 2 || super.isOf(kind);
        }
    }

    private static final class Widow extends Aunt {
        int drops(int apart, int said, int more) {
            return apart == 0 ? said + 2 * more : super.drops(apart, said, more);
        }

        int wears(int said, int more, int thick) {
            return thick > 50 ? 0 : super.wears(said, more, thick);
        }

        boolean isOf(int kind) {
            return kind == 3 || super.isOf(kind);
        }
    }

    private static final class Talker extends Child {
        int drops(int apart, int said, int more) {
            return apart == 0 ? -more : super.drops(apart, said, more);
        }

        int feels(int said, int more) {
            return super.feels(said, more) / 4;
        }

        boolean isOf(int kind) {
            return kind == 4 || super.isOf(kind);
        }
    }

    private static final class Caller extends Person {
        int drops(int apart, int said, int more) {
            return 0;
        }

        int wears(int said, int more, int thick) {
            return super.wears(said, more, thick) + more;
        }

        int feels(int said, int more) {
            return said < 10 ? 0 : super.feels(said, more);
        }

        boolean isOf(int kind) {
            return kind == 5 || super.isOf(kind);
        }
    }

    /** A text as steps on a stack: numbers as they are, below 0 names and operations. */
    private static final class Text {
        // Five operands may wait at each of the six levels that the brackets allow, and one stands on top.
        private static final int STACK_SIZE = 5 * (MOST_OPEN + 1) + 1;

        private final int[] stack = new int[STACK_SIZE];
        private final int[] bounds = {0, 1, 2, 3};
        private int[] code = {-1 - Reader.HELD_BACK, 1, -1 - Reader.THICK};

        private void become(Reader read) {
            code = Arrays.copyOf(read.code, read.steps);
            System.arraycopy(read.bounds, 0, bounds, 0, PARTS);
            bounds[PARTS] = read.steps;
        }

        private int says(int part, int[] names) {
            int size = 0;
            for (int i = bounds[part]; i < bounds[part + 1] && i < code.length; i++) {
                int step = code[i];
                if (step >= -Reader.NAMES) {
                    if (size < STACK_SIZE) {
                        stack[size] = step >= 0 ? step : names[-1 - step];
                        size++;
                    }
                } else if (step == -Reader.NOT || step == -Reader.NEGATE) {
                    if (size > 0) {
                        stack[size - 1] = ofOne(step, stack[size - 1]);
                    }
                } else if (size > 1) {
                    size--;
                    stack[size - 1] = ofTwo(step, stack[size - 1], stack[size]);
                }
            }
            int worth = size > 0 ? stack[size - 1] : 0;
            return Math.max(part == PART_LEAVES ? -99 : 0, Math.min(99, worth));
        }

        private static int ofOne(int step, int a) {
            if (step == -Reader.NEGATE) {
                return -a;
            }
            return a == 0 ? 1 : 0;
        }

        private static int ofTwo(int step, int a, int b) {
            switch (-step) {
                case Reader.OR: return a != 0 || b != 0 ? 1 : 0;
                case Reader.AND: return a != 0 && b != 0 ? 1 : 0;
                case '<': return a < b ? 1 : 0;
                case '=': return a == b ? 1 : 0;
                case '+': return a + b;
                case '-': return a - b;
                default: return a * b;
            }
        }
    }

    /** The tape, and its reading token by token into steps. */
    private static final class Reader {
        private static final String WORDS = "leaves wears feels or and not column row thick day held more ";
        private static final int COLUMN = 0, ROW = 1, THICK = 2, DAY = 3, HELD_BACK = 4, MORE_OF_ONE = 5, NAMES = 6;

        // Tokens; a sign is its own byte. As steps they stand below 0, beyond the names.
        private static final int END = 0, FAULTY = 1, NUMBER = 2, NAME = 3;
        private static final int LEAVES = 4, OR = 7, AND = 8, NOT = 9, NEGATE = 10;
        private static final int KEYS = 6, MOST_DIGITS = 4;

        private final int[] tape = new int[TAPE_SIZE];
        private final int[] code = new int[TAPE_SIZE];
        private final int[] bounds = new int[PARTS];
        private int size;
        private int steps;
        private int token;
        private int worth;
        private int start;
        private int next;

        private void append(int b) {
            if (size < TAPE_SIZE) {
                tape[size] = b;
                size++;
            }
        }

        /** False: the token that begins at start can't stand there. */
        private boolean readText() {
            steps = 0;
            next = 0;
            advance();
            for (int part = 0; part < PARTS; part++) {
                if (!skip(LEAVES + part)) {
                    return false;
                }
                bounds[part] = steps;
                if (!readOr(0) || !skip(';')) {
                    return false;
                }
            }
            return token == END;
        }

        private boolean readOr(int open) {
            if (!readAnd(open)) {
                return false;
            }
            for (int k = 0; k < TAPE_SIZE && token == OR; k++) {
                advance();
                if (!readAnd(open)) {
                    return false;
                }
                emit(-OR);
            }
            return true;
        }

        private boolean readAnd(int open) {
            if (!readNot(open)) {
                return false;
            }
            for (int k = 0; k < TAPE_SIZE && token == AND; k++) {
                advance();
                if (!readNot(open)) {
                    return false;
                }
                emit(-AND);
            }
            return true;
        }

        private boolean readNot(int open) {
            if (token == NOT) {
                if (open >= MOST_OPEN) {
                    return false;
                }
                advance();
                if (!readNot(open + 1)) {
                    return false;
                }
                emit(-NOT);
                return true;
            }
            if (!readSum(open)) {
                return false;
            }
            if (token == '<' || token == '=') {
                int sign = token;
                advance();
                if (!readSum(open)) {
                    return false;
                }
                emit(-sign);
            }
            return true;
        }

        private boolean readSum(int open) {
            if (!readTerm(open)) {
                return false;
            }
            for (int k = 0; k < TAPE_SIZE && (token == '+' || token == '-'); k++) {
                int sign = token;
                advance();
                if (!readTerm(open)) {
                    return false;
                }
                emit(-sign);
            }
            return true;
        }

        private boolean readTerm(int open) {
            if (!readOne(open)) {
                return false;
            }
            for (int k = 0; k < TAPE_SIZE && token == '*'; k++) {
                advance();
                if (!readOne(open)) {
                    return false;
                }
                emit(-'*');
            }
            return true;
        }

        private boolean readOne(int open) {
            if (token == NUMBER || token == NAME) {
                emit(token == NUMBER ? worth : -1 - worth);
                advance();
                return true;
            }
            if (token != '-' && token != '(' || open >= MOST_OPEN) {
                return false;
            }
            if (token == '(') {
                advance();
                return readOr(open + 1) && skip(')');
            }
            advance();
            if (!readOne(open + 1)) {
                return false;
            }
            emit(-NEGATE);
            return true;
        }

        private void emit(int step) {
            if (steps < TAPE_SIZE) {
                code[steps] = step;
                steps++;
            }
        }

        private boolean skip(int wanted) {
            if (token != wanted) {
                return false;
            }
            advance();
            return true;
        }

        private void advance() {
            start = next;
            while (start < size && (tape[start] == ' ' || tape[start] == '\n')) {
                start++;
            }
            if (start >= size) {
                next = size;
                token = END;
            } else if (isLetter(tape[start])) {
                takeWord();
            } else if (isDigit(tape[start])) {
                takeNumber();
            } else {
                next = start + 1;
                token = isSign(tape[start]) ? tape[start] : FAULTY;
            }
        }

        private void takeWord() {
            next = start;
            while (next < size && isLetter(tape[next])) {
                next++;
            }
            token = FAULTY;
            int number = 0;
            int from = 0;
            for (int i = 0; i < WORDS.length(); i++) {
                if (WORDS.charAt(i) == ' ') {
                    if (isWord(from, i)) {
                        token = number < KEYS ? LEAVES + number : NAME;
                        worth = number - KEYS;
                    }
                    number++;
                    from = i + 1;
                }
            }
        }

        private boolean isWord(int from, int to) {
            if (to - from != next - start) {
                return false;
            }
            for (int i = from; i < to; i++) {
                if (WORDS.charAt(i) != tape[start + i - from]) {
                    return false;
                }
            }
            return true;
        }

        private void takeNumber() {
            next = start;
            worth = 0;
            while (next < size && isDigit(tape[next])) {
                worth = worth * 10 + tape[next] - '0';
                next++;
            }
            token = next - start > MOST_DIGITS ? FAULTY : NUMBER;
        }

        private static boolean isLetter(int b) {
            return within(b, 'a', 'z');
        }

        private static boolean isDigit(int b) {
            return within(b, '0', '9');
        }

        private static boolean isSign(int b) {
            return within(b, '(', '+') || b == '-' || b == ';' || b == '<' || b == '=';
        }
    }

    /** A row of numbers of a sort, or missing. */
    private static final class Sheet {
        private final int[] numbers = new int[SHEET_SIZE];
        private int sort = MISSING;
        private int size;

        private void become(int newSort, int n) {
            sort = newSort;
            size = n;
            Arrays.fill(numbers, 0);
        }

        private void write(int i, int v) {
            if (sort == 0) {
                numbers[i] = (byte) v;
            } else if (sort == SHORTS) {
                numbers[i] = (short) v;
            } else {
                numbers[i] = v;
            }
        }

        private boolean holdsRange(int from, int n) {
            return from >= 0 && n >= 0 && from <= size && n <= size - from;
        }

        private boolean tellsWalk() {
            for (int i = 0; i < size; i++) {
                if (!isCell(numbers[i]) || i > 0 && apart(numbers[i - 1], numbers[i]) != 1) {
                    return false;
                }
            }
            return true;
        }
    }
}
