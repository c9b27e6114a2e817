import java.math.BigInteger;
import java.util.Arrays;

/**
 * The sentences of the document that name a boundary (but for the ranges of numbers, refusals and texts,
 * which RangeTest, RefusalTest and TextTest have): above each test stands its sentence.
 */
public final class EdgeTest {
    private static final long NO = -4611686018427387904L;
    private static final long ALL_CELLS = (1L << 36) - 1;
    private static final int PERSON = 0, AUNT = 10, CHILD = 20, WIDOW = 30, TALKER = 40, CALLER = 50;
    private static final int PROMISED_CALLS = 512;
    private static final Checks DUE = new Checks();

    public static void main(String[] args) {
        terms();
        kinds();
        days();
        walksAndWays();
        heapsAndRoom();
        best();
        tales();
        callers();
        shares();
        images();
        host();
        DUE.end();
    }

    private static UnderlayOfUnspoken fresh() {
        return new UnderlayOfUnspoken();
    }

    private static void same(String call, long got, long due) {
        DUE.same(call, got, due);
    }

    private static UnderlayOfUnspoken under(String leaves, String wears, String feels) {
        UnderlayOfUnspoken x = fresh();
        same("law", Checks.text(x, "leaves " + leaves + ";wears " + wears + ";feels " + feels + ";"), 1);
        x.force(1);
        return x;
    }

    // ======== Terms

    private static void terms() {
        newObject();
        columnsAndRows();
        thicknessBounds();
        sixPeople();
        severalOnOne();
        moreAndHeld();
        tapeOf160();
    }

    // No PEOPLE. (THICK, DAY 0 at first; sheets missing, as all are at first; TEXT 0, at first, and THE LAW)
    private static void newObject() {
        UnderlayOfUnspoken x = fresh();
        int[] due = {0, 0, 0, 1, 0, 0};
        for (int what = 0; what <= 5; what++) {
            same("new count " + what, x.count(what), due[what]);
        }
        for (int p = 0; p < 6; p++) {
            same("new told " + p, x.told(p, 0), -5);
            same("new taken " + p, x.taken(p, 0), -11);
        }
        for (int c = 0; c < 36; c++) {
            same("new under " + c, x.under(c), 0);
        }
        for (int s = 0; s < 4; s++) {
            same("new sheet " + s, x.cell(s, 0, 0), -11);
        }
        same("new image", x.back(), -3);
        same("new text", x.text(), -100);
        same("new day", x.day(), 0);
    }

    // CELL modulo 6 is the COLUMN, CELL by 6 (cut) the ROW; BESIDE: APART by 1 (columns and rows together)
    private static void columnsAndRows() {
        for (int c = 0; c < 36; c++) {
            UnderlayOfUnspoken x = under("2", "0", "0");
            x.person(AUNT, 100 * c);
            int beside = 0;
            for (int d = 0; d < 36; d++) {
                int apart = Math.abs(c % 6 - d % 6) + Math.abs(c / 6 - d / 6);
                same("aunt on " + c + " leaves on " + d, x.leaves(0, d, 0), apart == 0 ? 2 : apart == 1 ? 1 : 0);
                beside += apart == 1 ? 1 : 0;
                Checks.fill(x, 0, 0, c, d);
                same("walk from " + c + " to " + d, x.walk(0, 0, 0), apart == 1 ? 0 : -2);
            }
            same("aunt on " + c + " leaves", x.leaves(0, 0, 1), 2 + beside);
            same("day around " + c, x.day(), 2 + beside);
        }
    }

    // they are so much THICKER (0 .. 999, else the bound)
    private static void thicknessBounds() {
        UnderlayOfUnspoken x = fresh();
        x.person(PERSON, 707);
        x.person(TALKER + 9, 700);
        x.lay(7, 991);
        same("to the bound just so, and 9 less", x.day(), 989);
        same("998", x.lay(7, 998), 989);
        same("past the bound, then 9 less", x.day(), 990);
        x.lay(7, 999);
        same("at the bound", x.run(1, 7), 990);
        UnderlayOfUnspoken y = fresh();
        y.person(TALKER + 9, 700);
        y.person(PERSON, 707);
        y.lay(7, 9);
        same("to 0 just so, then 7", y.day(), 7);
        y.lay(7, 8);
        same("below 0, then 7", y.day(), 7);
        y.lay(7, 0);
        same("at 0, then 7", y.day(), 7);
        y.lay(7, 10);
        same("not quite to 0", y.day(), 8);
        y.lay(7, 999);
        same("down from the bound, then up", y.day(), 997);
        // Beside the seat, too.
        UnderlayOfUnspoken z = under("99", "0", "0");
        z.person(AUNT, 700);
        z.lay(8, 951);
        z.lay(6, 950);
        z.lay(1, 999);
        z.day();
        same("beside, past the bound", z.under(8), 999);
        same("beside, to the bound", z.under(6), 999);
        same("beside, at the bound", z.under(1), 999);
        UnderlayOfUnspoken w = under("-99", "0", "0");
        w.person(AUNT, 700);
        w.lay(7, 98);
        w.lay(8, 48);
        w.lay(6, 49);
        w.lay(1, 50);
        w.day();
        same("below 0", w.under(7), 0);
        same("beside, below 0", w.under(8), 0);
        same("beside, to 0", w.under(6), 0);
        same("beside, above 0", w.under(1), 1);
    }

    // PEOPLE are numbered from 0 on, 6 at most
    private static void sixPeople() {
        UnderlayOfUnspoken x = fresh();
        for (int p = 0; p < 6; p++) {
            same("nobody is " + p, x.told(p, 2), -5);
            same("person " + p, x.person(10 * p + 9 - p, 100 * (35 - p) + 99 - p), p);
            same("people", x.count(0), p + 1);
        }
        same("a seventh", x.person(0, 0), -4);
        same("six", x.count(0), 6);
        for (int p = 0; p < 6; p++) {
            same("seat of " + p, x.told(p, 0), 35 - p);
            same("held of " + p, x.told(p, 1), 99 - p);
            same("kind of " + p, x.told(p, 2), p);
            same("more of " + p, x.told(p, 3), 9 - p);
        }
        same("no sixth number", x.told(6, 0), -5);
    }

    // each SITS on a CELL (also several on one)
    private static void severalOnOne() {
        UnderlayOfUnspoken x = fresh();
        for (int p = 0; p < 6; p++) {
            same("person " + p, x.person(PERSON, 3510 + p), p);
        }
        same("all on the last", x.day(), 75);
        same("all on the last", x.under(35), 75);
        same("one goes", x.put(0, 0, 0), 35);
        same("one goes", x.day(), 150);
        same("one goes", x.under(0), 10);
        same("one comes back", x.put(0, 0, 35), 0);
    }

    // with MORE (0 .. 9); HELD: how much one holds back (0 .. 99)
    private static void moreAndHeld() {
        UnderlayOfUnspoken x = fresh();
        same("least", x.person(0, 0), 0);
        same("MORE 9", x.person(9, 99), 1);
        same("KIND 1, MORE 0", x.person(10, 100), 2);
        same("KIND 5, MORE 9", x.person(59, 3599), 3);
        int[][] due = {{0, 0, 0, 0}, {0, 99, 0, 9}, {1, 0, 1, 0}, {35, 99, 5, 9}};
        for (int p = 0; p < 4; p++) {
            for (int what = 0; what < 4; what++) {
                same("told " + p + " " + what, x.told(p, what), due[p][what]);
            }
        }
        same("put held", x.put(0, 1, 99), 0);
        same("put held as it is", x.put(0, 1, 99), 99);
        same("put held", x.put(0, 1, 0), 99);
    }

    // THE TAPE (160 bytes at most): they have not all room (none comes)
    private static void tapeOf160() {
        for (int n = 1; n <= 5; n++) {
            UnderlayOfUnspoken x = fresh();
            for (int i = 0; i < 160 - n + 1; i++) {
                x.feed(1, ' ', 0, 0, 0, 0);
            }
            same("no room for " + n, x.feed(n, ' ', ' ', ' ', ' ', ' '), -4);
            same("none comes", x.count(5), 160 - n + 1);
            UnderlayOfUnspoken y = fresh();
            for (int i = 0; i < 160 - n; i++) {
                y.feed(1, ' ', 0, 0, 0, 0);
            }
            same("just room for " + n, y.feed(n, ' ', ' ', ' ', ' ', 'x'), 160);
            same("full", y.feed(1, ' ', 0, 0, 0, 0), -4);
            same("what the last byte is", y.text(), n == 5 ? -259 : -260);
            same("room again", y.feed(5, 0, 0, 0, 0, 0), 5);
        }
    }

    // ======== Kinds

    private static int left(int kindMore, int said, int c) {
        UnderlayOfUnspoken x = under("" + said, "0", "0");
        x.person(kindMore, 700);
        return x.leaves(0, c, 0);
    }

    private static int worn(int kindMore, int said, int thick) {
        UnderlayOfUnspoken x = under("0", "" + said, "0");
        x.person(kindMore, 0);
        x.lay(9, thick);
        Checks.fill(x, 0, 0, 9);
        int worn = x.tread(0, 0);
        same("worn is gone", x.under(9), thick - worn);
        return worn;
    }

    private static int felt(int kindMore, int said) {
        UnderlayOfUnspoken x = under("0", "0", "" + said);
        x.person(kindMore, 0);
        return x.way(0, 909, 0, 0);
    }

    private static void kinds() {
        leftByKinds();
        wornByKinds();
        feltByKinds();
        takenForKinds();
    }

    private static void leftByKinds() {
        int[] said = {-99, -98, -3, -2, -1, 0, 1, 2, 3, 98, 99};
        // half (cut)
        int[] half = {-49, -49, -1, -1, 0, 0, 0, 1, 1, 49, 49};
        for (int i = 0; i < said.length; i++) {
            int s = said[i];
            same("PERSON that at 0: " + s, left(PERSON + 9, s, 7), s);
            same("PERSON nothing at 1: " + s, left(PERSON + 9, s, 8), 0);
            same("AUNT that at 0: " + s, left(AUNT + 9, s, 7), s);
            same("AUNT half (cut) at 1: " + s, left(AUNT + 9, s, 8), half[i]);
            same("CHILD 1 at 0, if the text says more than 0: " + s, left(CHILD + 9, s, 7), s > 0 ? 1 : 0);
            same("CHILD nothing at 1: " + s, left(CHILD + 9, s, 13), 0);
            same("WIDOW twice MORE more at 0: " + s, left(WIDOW + 9, s, 7), s + 18);
            same("WIDOW with MORE 0: " + s, left(WIDOW, s, 7), s);
            same("WIDOW as an AUNT at 1: " + s, left(WIDOW + 9, s, 1), half[i]);
            same("TALKER 0 less MORE at 0: " + s, left(TALKER + 9, s, 7), -9);
            same("TALKER with MORE 0: " + s, left(TALKER, s, 7), 0);
            same("TALKER nothing at 1: " + s, left(TALKER + 9, s, 6), 0);
            same("CALLER nothing: " + s, left(CALLER + 9, s, 7), 0);
            same("CALLER nothing: " + s, left(CALLER + 9, s, 8), 0);
            for (int kind = 0; kind < 6; kind++) {
                same("nothing at 2: " + s, left(10 * kind + 9, s, 9), 0);
                same("nothing at 2, askew: " + s, left(10 * kind + 9, s, 14), 0);
            }
        }
    }

    private static void wornByKinds() {
        for (int said : new int[] {0, 1, 2, 3, 98, 99}) {
            for (int thick : new int[] {200, 999}) {
                same("PERSON wears that: " + said, worn(PERSON + 9, said, thick), said);
                same("AUNT wears that: " + said, worn(AUNT + 9, said, thick), said);
                same("CHILD wears half (cut): " + said, worn(CHILD + 9, said, thick), said / 2);
                same("WIDOW wears nothing: " + said, worn(WIDOW + 9, said, thick), 0);
                same("TALKER wears half (cut): " + said, worn(TALKER + 9, said, thick), said / 2);
                same("CALLER wears MORE more: " + said, worn(CALLER + 9, said, thick), said + 9);
                same("CALLER with MORE 0: " + said, worn(CALLER, said, thick), said);
            }
            // if it is THICK by more than 50
            same("WIDOW wears at 50: " + said, worn(WIDOW + 9, said, 50), Math.min(50, said));
            same("WIDOW wears at 49: " + said, worn(WIDOW + 9, said, 49), Math.min(49, said));
            same("WIDOW wears nothing at 51: " + said, worn(WIDOW + 9, said, 51), 0);
            // WEARS 0 at least, and no more than lies there
            for (int kind = 0; kind < 6; kind++) {
                same("nothing lies there", worn(10 * kind + 9, said, 0), 0);
            }
        }
        for (int kind = 0; kind < 6; kind++) {
            UnderlayOfUnspoken x = under("0", "-99", "-99");
            x.person(10 * kind, 0);
            x.lay(3, 20);
            Checks.fill(x, 0, 0, 3);
            same("WEARS 0 at least, KIND " + kind, x.tread(0, 0), 0);
            same("FEELS 0 at least, KIND " + kind, x.walk(0, 0, 0), 0);
        }
    }

    private static void feltByKinds() {
        for (int said : new int[] {0, 1, 2, 3, 8, 9, 10, 11, 98, 99}) {
            same("PERSON feels that: " + said, felt(PERSON + 9, said), said);
            same("AUNT feels MORE more: " + said, felt(AUNT + 9, said), said + 9);
            same("AUNT with MORE 0: " + said, felt(AUNT, said), said);
            same("CHILD feels twice: " + said, felt(CHILD + 9, said), 2 * said);
            same("WIDOW feels MORE more: " + said, felt(WIDOW + 9, said), said + 9);
            same("TALKER feels a quarter (cut) of a CHILD's: " + said, felt(TALKER + 9, said), said / 2);
            same("CALLER feels nothing, if the text says less than 10: " + said, felt(CALLER + 9, said), said < 10 ? 0 : said);
        }
    }

    // one of that KIND (also of one that is one)
    private static void takenForKinds() {
        String[] is = {"0", "01", "02", "013", "024", "05"};
        UnderlayOfUnspoken x = fresh();
        for (int p = 0; p < 6; p++) {
            x.person(50 - 10 * p, 0);
            for (int kind = 0; kind <= 5; kind++) {
                same("KIND " + (5 - p) + " for " + kind, x.taken(p, kind), is[5 - p].indexOf('0' + kind) >= 0 ? p : -13);
            }
            same("one for a CELL", x.taken(p, 6), -13);
            same("none behind", x.taken(p + 1, 6), p < 5 ? -11 : 0);
        }
        x.lay(0, 999);
        x.lay(35, 1);
        for (int kind = 0; kind <= 5; kind++) {
            same("the first CELL for one", x.taken(6, kind), -13);
            same("the last CELL for one", x.taken(41, kind), -13);
        }
        same("the first CELL", x.taken(6, 6), 999);
        same("the last CELL", x.taken(41, 6), 1);
    }

    // ======== Days

    private static void days() {
        aheadOfTheTurn();
        dayIsOneMore();
        lastDay();
        noDays();
        sinksAtTheEdges();
    }

    // each one by numbers LEAVES so much (all told as it is ahead of one's turn)
    private static void aheadOfTheTurn() {
        UnderlayOfUnspoken x = under("thick", "0", "0");
        x.person(AUNT, 700);
        x.lay(7, 20);
        x.lay(8, 3);
        same("what is beside is told of the seat ahead of the turn", x.day(), 20 + 20 + 3 + 40);
        same("beside", x.under(8), 13);
        UnderlayOfUnspoken y = under("thick", "0", "0");
        y.person(AUNT, 800);
        y.person(PERSON, 700);
        y.person(PERSON, 700);
        y.lay(8, 20);
        y.lay(7, 3);
        same("the next sees what the first left", y.run(1, 7), 52);
        same("turns", y.run(1, 8), 40);
        UnderlayOfUnspoken z = under("day", "0", "0");
        z.person(PERSON, 700);
        z.person(PERSON, 700);
        same("DAY is 1 more only behind all", z.day(), 0);
        same("DAY is 1 more only behind all", z.day(), 2);
        same("DAY is 1 more only behind all", z.day(), 6);
    }

    // then DAY is 1 more
    private static void dayIsOneMore() {
        UnderlayOfUnspoken x = fresh();
        for (int call = 1; call < PROMISED_CALLS; call++) {
            same("a day without people", x.day(), 0);
        }
        same("DAY", x.count(1), PROMISED_CALLS - 1);
        UnderlayOfUnspoken y = under("(500<day)*7", "0", "0");
        y.person(PERSON, 0);
        for (int day = 1; day <= 490; day++) {
            y.day();
        }
        same("DAY goes on in thought", y.run(40, 0), 29 * 7);
        same("DAY goes on in thought", y.sinks(0, 1), 12);
        same("DAY is as it was", y.count(1), 490);
    }

    // DAY (0 .. 999; in thought it may pass 999); STATE: DAY is 999.
    private static void lastDay() {
        // What an object answers behind 512 calls is free; but only so DAY comes to 999, and the class goes on alike.
        UnderlayOfUnspoken x = under("(997<day)*(day-997)", "0", "0");
        x.person(PERSON, 0);
        for (int day = 1; day <= 998; day++) {
            x.day();
        }
        same("DAY 998", x.count(1), 998);
        same("the last day passes", x.day(), 1);
        same("DAY 999", x.count(1), 999);
        same("no further day", x.day(), -3);
        same("no further day", x.day(), -3);
        same("DAY stays", x.count(1), 999);
        same("nothing was left", x.under(0), 1);
        same("in thought DAY passes 999", x.run(1, 0), 1 + 2);
        same("in thought DAY passes 999", x.run(3, 0), 1 + 2 + 3 + 4);
        same("in thought DAY passes 999", x.sinks(0, 10), 3);
        same("in thought DAY passes 999", x.film(0, 0, 20), 20);
        same("in thought DAY passes 999", x.judge(0, 0), -1);
        x.image();
        same("back to DAY 999", x.back(), 1);
        same("still no further day", x.day(), -3);
    }

    // n DAYS (0 .. 40)
    private static void noDays() {
        UnderlayOfUnspoken x = fresh();
        same("nobody leaves anything", x.run(40, 36), 0);
        x.lay(0, 999);
        x.lay(35, 999);
        same("nobody leaves anything", x.run(40, 36), 1998);
        x.person(PERSON, 1);
        x.person(PERSON, 3525);
        same("0 DAYS, the first cell", x.run(0, 0), 999);
        same("0 DAYS, the last cell", x.run(0, 35), 999);
        same("0 DAYS, ALL", x.run(0, 36), 1998);
        same("40 DAYS at the bound", x.run(40, 36), 1998);
        x.lay(0, 958);
        x.lay(35, 0);
        same("40 DAYS", x.run(40, 0), 998);
        same("40 DAYS to the bound", x.run(40, 35), 999);
        x.lay(0, 960);
        same("40 DAYS past the bound", x.run(40, 0), 999);
        same("39 DAYS to the bound", x.run(39, 0), 999);
        same("38 DAYS", x.run(38, 0), 998);
    }

    // Behind how many DAYS (0 .. 40) a CELL is THICK by need or more for the first time; -1: never.
    private static void sinksAtTheEdges() {
        UnderlayOfUnspoken x = fresh();
        same("0 is at once", x.sinks(0, 0), 0);
        same("nobody: never", x.sinks(0, 1), -1);
        x.person(PERSON, 25);
        same("at once", x.sinks(0, 0), 0);
        same("behind one", x.sinks(0, 25), 1);
        same("behind two", x.sinks(0, 26), 2);
        same("behind 39", x.sinks(0, 975), 39);
        same("behind 40", x.sinks(0, 976), 40);
        same("behind 40, the bound", x.sinks(0, 999), 40);
        x.put(0, 1, 24);
        same("24 a day", x.sinks(0, 960), 40);
        same("not within 40", x.sinks(0, 961), -1);
        x.lay(0, 999);
        same("already", x.sinks(0, 999), 0);
        // For the first time: later it may be less again.
        UnderlayOfUnspoken y = under("10-day*20", "0", "0");
        y.person(PERSON, 3500);
        y.lay(35, 5);
        same("for the first time", y.sinks(35, 15), 1);
        same("for the first time", y.sinks(35, 16), -1);
        same("then less", y.run(2, 35), 5);
        same("at 0", y.run(3, 35), 0);
    }

    // ======== Walks and ways

    private static void walksAndWays() {
        walkOfNone();
        walkOfOne();
        walkOfForty();
        sortsOfWalks();
        firstOfLike();
        treadsCellByCell();
        wayToItself();
        wayAtTheLimit();
        wayAround();
    }

    // A WALK: CELLS, each BESIDE the one ahead (none, too). (1; 0), (2; from 0; -1: it has none)
    private static void walkOfNone() {
        for (int sort = 0; sort <= 2; sort++) {
            UnderlayOfUnspoken x = fresh();
            x.sheet(0, sort, 0);
            same("none, nobody", x.walk(0, 0, 0), -5);
            same("none, nobody", x.tread(0, 0), -5);
            x.person(AUNT + 9, 0);
            same("none, together", x.walk(0, 0, 0), 0);
            same("none, the most", x.walk(0, 0, 1), 0);
            same("none, at which", x.walk(0, 0, 2), -1);
            same("none, nothing felt on", x.walk(0, 0, 3), 0);
            same("none, what", x.walk(0, 0, 4), -7);
            same("none worn", x.tread(0, 0), 0);
        }
    }

    private static void walkOfOne() {
        UnderlayOfUnspoken x = fresh();
        x.person(PERSON, 0);
        x.lay(35, 7);
        x.lay(0, 999);
        Checks.fill(x, 0, 0, 35);
        Checks.fill(x, 1, 0, 0);
        Checks.fill(x, 2, 0, 20);
        int[][] due = {{7, 7, 0, 0}, {99, 99, 0, 0}, {0, 0, 0, 1}};
        for (int s = 0; s < 3; s++) {
            for (int what = 0; what < 4; what++) {
                same("one cell " + s + " " + what, x.walk(s, 0, what), due[s][what]);
            }
        }
        same("one cell worn", x.tread(0, 0), 1);
        same("one cell worn", x.tread(1, 0), 1);
        same("one cell worn, nothing there", x.tread(2, 0), 0);
    }

    // SHEETS: 40 at most
    private static void walkOfForty() {
        UnderlayOfUnspoken x = under("0", "1", "thick");
        x.person(PERSON, 0);
        x.lay(3, 50);
        x.lay(4, 15);
        x.sheet(0, 2, 40);
        for (int i = 0; i < 40; i++) {
            x.cell(0, i, 3 + i % 2);
        }
        same("forty, together", x.walk(0, 0, 0), 20 * 65);
        same("forty, the most", x.walk(0, 0, 1), 50);
        same("forty, at which", x.walk(0, 0, 2), 0);
        same("forty, nothing felt on", x.walk(0, 0, 3), 0);
        same("forty, worn as it is then", x.tread(0, 0), 35);
        same("forty, worn", x.under(3), 30);
        same("forty, worn down", x.under(4), 0);
        same("forty, each time counts", x.walk(0, 0, 3), 20);
        same("forty, no more", x.tread(0, 0), 20);
        x.cell(0, 39, 5);
        same("the last is no neighbour", x.walk(0, 0, 0), -2);
        same("the last is no neighbour", x.tread(0, 0), -2);
        x.cell(0, 39, 9);
        same("the last is a neighbour below", x.walk(0, 0, 3), 20);
        x.cell(0, 0, 2);
        same("the first is no neighbour", x.walk(0, 0, 0), -2);
        x.cell(0, 0, 10);
        same("the first is a neighbour below", x.walk(0, 0, 3), 21);
        x.cell(0, 39, 36);
        same("the last is no cell", x.walk(0, 0, 0), -2);
        x.cell(0, 39, 9);
        x.cell(0, 0, -1);
        same("the first is no cell", x.walk(0, 0, 0), -2);
    }

    private static void sortsOfWalks() {
        for (int sort = 0; sort <= 2; sort++) {
            UnderlayOfUnspoken x = fresh();
            x.person(PERSON, 0);
            x.lay(35, 7);
            Checks.fill(x, 0, sort, 34, 256 + 35);
            same("bytes wrap, sort " + sort, x.walk(0, 0, 0), sort == 0 ? 7 : -2);
            Checks.fill(x, 0, sort, 34, 65536 + 35);
            same("shorts wrap, sort " + sort, x.walk(0, 0, 0), sort <= 1 ? 7 : -2);
            Checks.fill(x, 0, sort, 34, 35 - 65536);
            same("shorts wrap, sort " + sort, x.walk(0, 0, 0), sort <= 1 ? 7 : -2);
            Checks.fill(x, 0, sort, 34, Integer.MIN_VALUE + 35);
            same("the lowest bits, sort " + sort, x.walk(0, 0, 0), sort <= 1 ? 7 : -2);
        }
    }

    // the most of one CELL (1), at which first (2; from 0), on how many one FEELS nothing (3)
    private static void firstOfLike() {
        UnderlayOfUnspoken x = fresh();
        x.person(PERSON, 0);
        Checks.fill(x, 0, 0, 0, 1, 2, 1, 0, 6);
        same("nothing felt, at which first", x.walk(0, 0, 2), 0);
        same("nothing felt", x.walk(0, 0, 3), 6);
        x.lay(1, 40);
        same("of like ones the first", x.walk(0, 0, 2), 1);
        same("nothing felt but on two", x.walk(0, 0, 3), 4);
        x.lay(6, 41);
        same("the last", x.walk(0, 0, 2), 5);
        same("the most", x.walk(0, 0, 1), 41);
        x.lay(6, 40);
        same("like again", x.walk(0, 0, 2), 1);
        x.lay(0, 99);
        x.lay(1, 100);
        same("felt alike at the text's bound", x.walk(0, 0, 2), 0);
        same("felt alike at the text's bound", x.walk(0, 0, 1), 99);
    }

    // CELL by CELL each is less THICK by what one WEARS (0 at least; told as it is then): by how much, together.
    private static void treadsCellByCell() {
        UnderlayOfUnspoken x = under("0", "99", "0");
        x.person(CALLER + 9, 0);
        x.lay(0, 108);
        x.lay(1, 109);
        x.lay(2, 107);
        Checks.fill(x, 0, 0, 0, 1, 2);
        same("no more than lies there", x.tread(0, 0), 108 + 108 + 107);
        same("to 0 just so", x.under(0), 0);
        same("1 is left", x.under(1), 1);
        same("0 at least", x.under(2), 0);
        same("what is left", x.tread(0, 0), 1);
        same("nothing is left", x.tread(0, 0), 0);
        UnderlayOfUnspoken y = under("0", "thick-10", "0");
        y.person(PERSON, 0);
        y.lay(7, 30);
        Checks.fill(y, 0, 0, 7, 8, 7, 6, 7);
        same("told as it is then", y.tread(0, 0), 20);
        same("told as it is then", y.under(7), 10);
        UnderlayOfUnspoken w = under("0", "1", "0");
        w.person(WIDOW, 0);
        w.person(PERSON, 0);
        w.lay(7, 51);
        w.lay(8, 50);
        Checks.fill(w, 0, 0, 7, 8, 7);
        same("more than 50: nothing", w.tread(0, 0), 1);
        same("another one", w.tread(0, 1), 3);
        same("now no more than 50", w.tread(0, 0), 3);
    }

    // A WAY from a CELL to another one: a WALK from the one to the other (one and the same: that alone).
    private static void wayToItself() {
        UnderlayOfUnspoken x = fresh();
        x.person(PERSON, 0);
        for (int c = 0; c < 36; c++) {
            x.lay(c, c);
        }
        for (int c = 0; c < 36; c++) {
            same("to itself", x.way(0, 101 * c, 0, 0), c);
            same("to itself, limit", x.way(0, 101 * c, c, 1), 1);
            same("to itself, too much", x.way(0, 101 * c, Math.max(0, c - 1), 1), c == 0 ? 1 : -1);
        }
    }

    // the fewest CELLS of a WAY, both, too, on each of which one FEELS limit (0 .. 999) or less (-1: there is none)
    private static void wayAtTheLimit() {
        UnderlayOfUnspoken x = fresh();
        x.person(CHILD, 0);
        x.lay(0, 10);
        x.lay(1, 20);
        x.lay(6, 30);
        x.lay(2, 15);
        same("just the limit", x.way(0, 2, 40, 1), 3);
        same("less than the way's most", x.way(0, 2, 39, 1), -1);
        same("both, too: the first", x.way(0, 1, 19, 1), -1);
        same("both, too: the last", x.way(0, 100, 19, 1), -1);
        same("the other way", x.way(0, 200, 40, 1), 3);
        same("no limit", x.way(0, 35, 999, 1), 11);
        same("no limit, least", x.way(0, 2, 999, 0), 20 + 40 + 30);
        same("limit matters only to the fewest", x.way(0, 2, 0, 0), 20 + 40 + 30);
        x.lay(1, 999);
        x.lay(6, 999);
        same("shut in at the text's bound", x.way(0, 35, 197, 1), -1);
        same("shut in at the text's bound", x.way(0, 35, 198, 1), 11);
        same("least through it", x.way(0, 35, 0, 0), 20 + 198);
        // The first and the last cell of all are felt as well, where nothing else is in the way.
        for (int end : new int[] {0, 35}) {
            UnderlayOfUnspoken z = fresh();
            z.person(PERSON, 0);
            z.lay(end, 1);
            same("from it", z.way(0, 100 * end + 14, 0, 1), -1);
            same("to it", z.way(0, 1400 + end, 0, 1), -1);
            same("from it to it", z.way(0, 101 * end, 0, 1), -1);
            same("just so", z.way(0, 1400 + end, 1, 1), end == 0 ? 5 : 7);
        }
        UnderlayOfUnspoken y = fresh();
        y.person(PERSON, 0);
        same("nothing is felt anywhere", y.way(0, 3500, 0, 1), 11);
        same("nothing is felt anywhere", y.way(0, 3500, 0, 0), 0);
    }

    private static void wayAround() {
        // One winding lane from cell 0 to cell 35: three rows whole, and what joins them.
        UnderlayOfUnspoken x = fresh();
        x.person(PERSON, 0);
        for (int c = 0; c < 36; c++) {
            boolean joins = c / 6 % 4 == 1 ? c % 6 == 5 : c % 6 == 0;
            x.lay(c, c / 6 % 2 == 0 || joins ? 1 : 99);
        }
        same("the lane", x.way(0, 35, 1, 1), 21);
        same("the lane, felt", x.way(0, 35, 0, 0), 21);
        same("back", x.way(0, 3500, 1, 1), 21);
        same("back, felt", x.way(0, 3500, 0, 0), 21);
        same("a part of it", x.way(0, 524, 1, 1), 10);
        same("a part of it, felt", x.way(0, 524, 1, 0), 10);
        same("beside the lane", x.way(0, 30, 98, 1), -1);
        same("straight", x.way(0, 30, 99, 1), 6);
        same("beside the lane, felt", x.way(0, 30, 0, 0), 15 + 99);
    }

    // ======== Heaps, thick and thin cells

    private static void heapsAndRoom() {
        heapsAtTheEdges();
        roomsAtTheEdges();
    }

    // CELLS that are THICK by least or more, and hang together with a CELL that is (none, if it isn't)
    private static void heapsAtTheEdges() {
        UnderlayOfUnspoken x = fresh();
        same("least 0: all", x.heap(17, 0, 0), ALL_CELLS);
        same("least 0: all", x.heap(0, 0, 1), 36);
        same("least 0: all", x.heap(35, 0, 2), 0);
        for (int what = 0; what <= 2; what++) {
            same("none", x.heap(0, 1, what), 0);
            same("none", x.heap(35, 999, what), 0);
        }
        x.lay(5, 999);
        x.lay(6, 998);
        x.lay(11, 999);
        x.lay(30, 7);
        x.lay(35, 8);
        same("999", x.heap(5, 999, 0), 1L << 5 | 1L << 11);
        same("999, together", x.heap(11, 999, 2), 1998);
        same("998 is less than 999", x.heap(6, 999, 1), 0);
        same("a row's end is beside no row's begin", x.heap(6, 998, 0), 1L << 6);
        same("a row's begin is beside no row's end", x.heap(5, 998, 0), 1L << 5 | 1L << 11);
        same("the last cell", x.heap(35, 8, 0), 1L << 35);
        same("just too thin", x.heap(35, 9, 0), 0);
        same("the last row's begin", x.heap(30, 7, 0), 1L << 30);
        for (int c = 0; c < 36; c++) {
            x.lay(c, 999);
        }
        same("all at their most", x.heap(20, 999, 2), 36 * 999);
        same("all at their most", x.heap(20, 999, 0), ALL_CELLS);
        same("ALL at its most", x.count(2), 36 * 999);
        same("ALL at its most", x.day(), 36 * 999);
        same("ALL at its most", x.run(40, 36), 36 * 999);
        x.lay(20, 998);
        same("but for itself", x.heap(20, 999, 0), 0);
        same("but for one", x.heap(0, 999, 0), ALL_CELLS & ~(1L << 20));
    }

    // The THICKEST CELL (what 0), the least THICK one (1), of like ones the first; how many such heaps (2)
    private static void roomsAtTheEdges() {
        UnderlayOfUnspoken x = fresh();
        same("all alike", x.room(0, 0), 0);
        same("all alike", x.room(0, 1), 0);
        same("least 0: one heap", x.room(0, 2), 1);
        same("least 1: none", x.room(1, 2), 0);
        x.lay(35, 1);
        same("the last is thickest", x.room(999, 0), 35);
        same("the last is a heap", x.room(1, 2), 1);
        x.lay(34, 1);
        same("of like ones the first", x.room(999, 0), 34);
        for (int c = 0; c < 35; c++) {
            x.lay(c, 5);
        }
        same("the last is thinnest", x.room(999, 1), 35);
        x.lay(33, 1);
        same("of like ones the first", x.room(999, 1), 33);
        same("of like ones the first", x.room(999, 0), 0);
        UnderlayOfUnspoken y = fresh();
        for (int c = 0; c < 36; c++) {
            y.lay(c, (c % 6 + c / 6) % 2 == 0 ? 999 : 998);
        }
        same("as many heaps as can be", y.room(999, 2), 18);
        same("one", y.room(998, 2), 1);
        y.lay(1, 999);
        same("three become one", y.room(999, 2), 16);
    }

    // ======== What is best

    private static void best() {
        turnsAtTheEdges();
        seatsAtTheEdges();
    }

    // Without whom ALL would be least, of like ones the first (-1: no PEOPLE), how much then (as so, if none)
    private static void turnsAtTheEdges() {
        UnderlayOfUnspoken x = fresh();
        same("no PEOPLE", x.turn(0, 0), -1);
        same("no PEOPLE", x.turn(40, 0), -1);
        same("no PEOPLE, nothing", x.turn(40, 1), 0);
        x.lay(35, 999);
        x.lay(0, 999);
        same("no PEOPLE, as so", x.turn(0, 1), 1998);
        same("no PEOPLE, as so", x.turn(40, 1), 1998);
        x.person(TALKER + 9, 0);
        same("the only one, even if it would be more", x.turn(40, 0), 0);
        same("the only one, even if it would be more", x.turn(40, 1), 1998);
        x.person(PERSON, 3500);
        same("of like ones the first: 0 days", x.turn(0, 0), 0);
        same("0 days", x.turn(0, 1), 1998);
        same("the other", x.turn(1, 0), 1);
        same("the other", x.turn(40, 1), 999 - 360 + 999);
        UnderlayOfUnspoken y = fresh();
        for (int p = 0; p < 6; p++) {
            y.person(PERSON, 100 * p + 10);
        }
        same("six alike: the first", y.turn(40, 0), 0);
        same("six alike", y.turn(40, 1), 5 * 400);
        y.put(5, 1, 11);
        same("the last", y.turn(1, 0), 5);
        same("the last", y.turn(1, 1), 50);
        y.put(3, 1, 11);
        same("of like ones the first", y.turn(1, 0), 3);
        same("of like ones the first", y.turn(1, 1), 51);
        same("all are still there", y.day(), 62);
    }

    // The CELL such that the THICKEST CELL would be least THICK behind n DAYS (0 .. 20), of like ones the first
    private static void seatsAtTheEdges() {
        UnderlayOfUnspoken x = fresh();
        x.person(PERSON, 3510);
        x.lay(35, 100);
        same("0 days: of like ones the first", x.seats(0, 0, 0), 0);
        same("0 days", x.seats(0, 0, 1), 100);
        same("20 days", x.seats(0, 20, 0), 0);
        same("20 days", x.seats(0, 20, 1), 200);
        for (int c = 0; c < 35; c++) {
            x.lay(c, 101);
        }
        same("the last", x.seats(0, 1, 0), 35);
        same("the last", x.seats(0, 1, 1), 110);
        x.lay(35, 101);
        same("of like ones the first", x.seats(0, 1, 0), 0);
        for (int c = 0; c < 36; c++) {
            x.lay(c, 999);
        }
        same("all at the bound", x.seats(0, 20, 0), 0);
        same("all at the bound", x.seats(0, 20, 1), 999);
        UnderlayOfUnspoken y = fresh();
        y.person(CALLER, 3500);
        same("one who leaves nothing", y.seats(0, 20, 0), 0);
        same("one who leaves nothing", y.seats(0, 20, 1), 0);
        y.person(TALKER + 9, 3500);
        y.lay(34, 50);
        same("one who takes away", y.seats(1, 1, 0), 34);
        same("one who takes away", y.seats(1, 1, 1), 41);
    }

    // ======== Told days

    private static void tales() {
        talesOfNone();
        talesOfTwenty();
        firstOtherwise();
        talesOfSorts();
        talesFitting();
        films();
    }

    // A SHEET tells how THICK a CELL is behind 1, 2, .. DAYS (20 at most)
    private static void talesOfNone() {
        UnderlayOfUnspoken x = fresh();
        x.person(PERSON, 710);
        Checks.text(x, "leaves 1;wears 1;feels 1;");
        x.sheet(0, 0, 0);
        same("none told", x.judge(0, 7), -1);
        same("none told", x.kinds(0, 7, 0, 0), 63);
        same("none told", x.kinds(0, 7, 0, 1), 1023);
        same("none told", x.where(0, 7, 0), ALL_CELLS);
        same("none told", x.holds(0, 7, 0, 0), 100);
        same("none told", x.holds(0, 7, 0, 1), 0);
        same("none told", x.laws(0, 7), 3);
    }

    private static void talesOfTwenty() {
        UnderlayOfUnspoken x = fresh();
        x.person(PERSON, 710);
        same("twenty", x.film(0, 7, 20), 20);
        same("twenty told", x.judge(0, 7), -1);
        same("twenty told", x.holds(0, 7, 0, 1), 10);
        same("twenty told", x.where(0, 7, 0), 1L << 7);
        same("twenty told", x.kinds(0, 7, 0, 0), 1 << 0 | 1 << 1 | 1 << 3);
        same("twenty told", x.laws(0, 7), 1);
        x.cell(0, 19, 199);
        same("the last is otherwise", x.judge(0, 7), 19);
        same("the last is otherwise", x.holds(0, 7, 0, 0), 0);
        same("the last is otherwise", x.holds(0, 7, 0, 1), -1);
        same("the last is otherwise", x.where(0, 7, 0), 0);
        same("the last is otherwise", x.kinds(0, 7, 0, 0), 0);
        same("the last is otherwise", x.laws(0, 7), 0);
    }

    // the first number (from 0) that is otherwise; -1: none
    private static void firstOtherwise() {
        UnderlayOfUnspoken x = fresh();
        x.person(PERSON, 10);
        Checks.fill(x, 0, 1, 11, 20, 31);
        same("the first", x.judge(0, 0), 0);
        x.cell(0, 0, 10);
        same("the third", x.judge(0, 0), 2);
        x.cell(0, 2, 30);
        same("none", x.judge(0, 0), -1);
        x.lay(0, 999);
        same("behind 1 DAY, not now", x.judge(0, 0), 0);
        Checks.fill(x, 1, 1, 999, 999);
        same("at the bound", x.judge(1, 0), -1);
        Checks.fill(x, 1, 1, 999, 1009);
        same("beyond the bound", x.judge(1, 0), 1);
        Checks.fill(x, 1, 1, 0, -1);
        same("below 0", x.judge(1, 35), 1);
    }

    // of sort 0 bytes, 1 shorts, 2 ints; (of bytes, shorts its lowest 8, 16 bits)
    private static void talesOfSorts() {
        // numbers that come, and what a sheet of a sort then holds
        int[] v = {127, 128, 255, 256, 999, 32767, 32768, 65535, 65536, 65536 + 999, -1, -128, -129, -256, -65536,
            Integer.MIN_VALUE, Integer.MAX_VALUE};
        for (int sort = 0; sort <= 2; sort++) {
            for (int number : v) {
                int holds = sort == 0 ? (byte) number : sort == 1 ? (short) number : number;
                UnderlayOfUnspoken x = fresh();
                Checks.fill(x, 0, sort, number);
                for (int thick : new int[] {0, 127, 128, 255, 256, 999}) {
                    x.lay(20, thick);
                    same("sort " + sort + " holds " + number + " as " + holds, x.judge(0, 20), thick == holds ? -1 : 0);
                }
            }
        }
    }

    private static void talesFitting() {
        // CELLS (bits) by which, were one to SIT there: the first and the last
        UnderlayOfUnspoken x = fresh();
        x.person(PERSON, 710);
        Checks.fill(x, 0, 1, 10);
        same("on the first", x.where(0, 0, 0), 1L);
        same("on the last", x.where(0, 35, 0), 1L << 35);
        x.cell(0, 0, 0);
        same("but on the last", x.where(0, 35, 0), ALL_CELLS & ~(1L << 35));
        same("but on the first", x.where(0, 0, 0), ALL_CELLS & ~1L);
        // HELD (0 .. 99): how many, the least (-1: none)
        same("holds 0", x.holds(0, 7, 0, 0), 1);
        same("holds 0", x.holds(0, 7, 0, 1), 0);
        same("holds anything", x.holds(0, 8, 0, 0), 100);
        same("holds anything", x.holds(0, 8, 0, 1), 0);
        x.cell(0, 0, 99);
        same("holds 99", x.holds(0, 7, 0, 0), 1);
        same("holds 99", x.holds(0, 7, 0, 1), 99);
        x.cell(0, 0, 100);
        same("holds 100: none", x.holds(0, 7, 0, 0), 0);
        same("holds 100: none", x.holds(0, 7, 0, 1), -1);
        x.lay(7, 920);
        x.cell(0, 0, 999);
        same("past the bound", x.holds(0, 7, 0, 0), 21);
        same("past the bound", x.holds(0, 7, 0, 1), 79);
        // MORE (1; bits 0 .. 9), KINDS (bits 0 .. 5)
        UnderlayOfUnspoken y = fresh();
        y.person(TALKER + 5, 710);
        y.lay(7, 9);
        Checks.fill(y, 0, 1, 0);
        same("MORE 9", y.kinds(0, 7, 0, 1), 1 << 9);
        y.cell(0, 0, 9);
        same("MORE 0", y.kinds(0, 7, 0, 1), 1);
        same("CALLER", y.kinds(0, 7, 0, 0), 1 << 5);
        y.lay(7, 0);
        y.cell(0, 0, 0);
        same("any MORE", y.kinds(0, 7, 0, 1), 1023);
        same("TALKER, CALLER", y.kinds(0, 7, 0, 0), 1 << 4 | 1 << 5);
        same("any KIND, far away", y.kinds(0, 35, 0, 0), 63);
        // TEXTS (bits), were they THE LAW: the first, the last of six
        UnderlayOfUnspoken z = fresh();
        z.person(PERSON, 706);
        for (int t = 1; t <= 5; t++) {
            Checks.text(z, "leaves " + t + ";wears 1;feels 1;");
        }
        Checks.fill(z, 0, 1, 6);
        same("the first", z.laws(0, 7), 1);
        z.cell(0, 0, 5);
        same("the last", z.laws(0, 7), 1 << 5);
        z.cell(0, 0, 0);
        same("none", z.laws(0, 7), 0);
        same("all", z.laws(0, 8), 63);
    }

    // A SHEET truly becomes how THICK a CELL is behind 1, .., n DAYS (0 .. 20; shorts): n.
    private static void films() {
        UnderlayOfUnspoken x = fresh();
        x.person(PERSON, 60);
        for (int s = 0; s < 4; s++) {
            same("a missing sheet becomes one", x.film(s, 0, 0), 0);
            same("of shorts", x.peopleBy(s, 1, 0, 0), 0);
            same("of none", x.cell(s, 0, 0), -12);
        }
        x.sheet(0, 2, 40);
        same("a sheet of ints becomes one", x.film(0, 0, 20), 20);
        same("of shorts", x.peopleBy(0, 1, 0, 0), 0);
        same("of twenty", x.cell(0, 20, 0), -12);
        for (int i = 0; i < 20; i++) {
            x.film(1, 0, 1);
            same("a number", x.copy(0, i, 1, 0, 1), 1);
            UnderlayOfUnspoken y = fresh();
            Checks.fill(y, 0, 2, Math.min(999, 60 * (i + 1)));
            y.person(PERSON, 60);
            for (int day = 0; day < i; day++) {
                y.day();
            }
            same("behind " + (i + 1), y.judge(0, 0), -1);
        }
        same("it is so", x.judge(0, 0), -1);
        x.cell(0, 16, 998);
        same("at the bound it is 999", x.judge(0, 0), 16);
    }

    // ======== Callers by lots, shares

    private static int goneBy(int seed, int from, int steps) {
        BigInteger prime = BigInteger.valueOf(2147483647L);
        BigInteger lot = BigInteger.valueOf(seed + 1L);
        int[] at = {from % 6, from / 6};
        for (int i = 0; i < steps; i++) {
            lot = lot.multiply(BigInteger.valueOf(48271)).mod(prime);
            int way = lot.intValue() % 4;
            int next = at[way / 2] + (way % 2 == 0 ? 1 : -1);
            at[way / 2] = next < 0 || next > 5 ? at[way / 2] : next;
        }
        return 6 * at[1] + at[0];
    }

    private static void callers() {
        lots();
        noSteps();
        wornAhead();
        seedsPast99999();
        oddsAtTheEdges();
    }

    // LOT modulo 4: 0 a column further, ..; there is none: one stays. the first is (SEED and 1) times 48271
    private static void lots() {
        UnderlayOfUnspoken x = fresh();
        x.person(PERSON, 0);
        for (int seed : new int[] {0, 1, 2, 3, 99998, 99999}) {
            for (int from : new int[] {0, 5, 30, 35, 2, 17, 14}) {
                for (int steps : new int[] {0, 1, 2, 99}) {
                    same("lots " + seed + " " + from + " " + steps, x.drawn(seed, 0, 100 * from + steps, 1),
                        goneBy(seed, from, steps));
                }
            }
        }
        // From each corner each direction that isn't there keeps one where one is.
        UnderlayOfUnspoken y = fresh();
        y.person(PERSON, 0);
        int[] seen = new int[36];
        for (int seed = 0; seed < 100; seed++) {
            for (int from : new int[] {0, 5, 30, 35}) {
                int to = y.drawn(seed, 0, 100 * from + 1, 1);
                same("one lot " + seed + " " + from, to, goneBy(seed, from, 1));
                seen[to]++;
            }
        }
        for (int c : new int[] {0, 5, 30, 35}) {
            DUE.holds("somebody stayed on " + c, seen[c] > 20);
        }
        same("nobody leapt", seen[0] + seen[1] + seen[6] + seen[4] + seen[5] + seen[11] + seen[24] + seen[30] + seen[31]
            + seen[29] + seen[34] + seen[35], 400);
    }

    // so many steps (cellSteps: 100 times the CELL, and steps, 0 .. 99)
    private static void noSteps() {
        UnderlayOfUnspoken x = fresh();
        x.person(PERSON, 0);
        for (int c = 0; c < 36; c++) {
            x.lay(c, 10);
            same("no steps, felt", x.drawn(5, 0, 100 * c, 0), 0);
            same("no steps, where", x.drawn(5, 0, 100 * c, 1), c);
            same("one step, felt", x.drawn(5, 0, 100 * c + 1, 0), 10);
        }
        same("no steps, 0 or more", x.odds(40, 0, 700, 0, 0), 1);
        same("no steps, 1 or more", x.odds(40, 0, 700, 1, 0), 0);
        same("no steps, 1 or more", x.odds(40, 0, 700, 1, 1), 1);
    }

    // one FEELS the CELL on which one is, it is less THICK by what one WEARS (0 at least; both told ahead of it)
    private static void wornAhead() {
        // All cells but one are bare: what is felt there is felt ahead of its being worn, then the rest.
        UnderlayOfUnspoken x = under("0", "thick-3", "thick");
        x.person(PERSON, 0);
        x.lay(14, 20);
        int visits = 0;
        int felt = 0;
        int thick = 20;
        for (int i = 0; i < 40; i++) {
            if (goneBy(8, 14, i) == 14) {
                visits++;
                felt += thick;
                thick = Math.max(0, thick - Math.max(0, thick - 3));
            }
        }
        DUE.holds("more than once there", visits > 1);
        same("felt, then worn", x.drawn(8, 0, 1440, 0), felt);
        UnderlayOfUnspoken y = under("0", "99", "thick");
        y.person(CALLER + 9, 0);
        y.lay(14, 12);
        same("0 at least", y.drawn(8, 0, 1440, 0), 12);
        same("in thought", y.under(14), 12);
        UnderlayOfUnspoken w = under("0", "1", "thick");
        w.person(WIDOW, 0);
        w.lay(14, 51);
        same("a widow wears nothing beyond 50", w.drawn(8, 0, 1440, 0), 51 * visits);
        w.lay(14, 50);
        int worn = 0;
        for (int i = 0; i < visits; i++) {
            worn += 50 - i;
        }
        same("a widow wears at 50", w.drawn(8, 0, 1440, 0), worn);
    }

    // SEED and each 1 more (they may pass 99999)
    private static void seedsPast99999() {
        UnderlayOfUnspoken x = fresh();
        x.person(PERSON, 0);
        x.lay(15, 9);
        for (int many = 1; many <= 40; many++) {
            int enough = 0;
            for (int i = 0; i < many; i++) {
                enough += goneBy(99999 + i, 14, 1) == 15 ? 1 : 0;
            }
            int gcd = BigInteger.valueOf(enough).gcd(BigInteger.valueOf(many)).intValue();
            same("past 99999, above, " + many, x.odds(9999900 + many, 0, 1402, 9, 0), enough / gcd);
            same("past 99999, below, " + many, x.odds(9999900 + many, 0, 1402, 9, 1), many / gcd);
        }
    }

    // By how many of so many seeds one FEELS least or more: part 0 above, 1 below the line, in lowest terms.
    private static void oddsAtTheEdges() {
        UnderlayOfUnspoken x = fresh();
        x.person(PERSON, 0);
        x.lay(0, 7);
        same("just least", x.odds(1, 0, 1, 7, 0), 1);
        same("just least", x.odds(1, 0, 1, 7, 1), 1);
        same("just less", x.odds(1, 0, 1, 8, 0), 0);
        same("just less", x.odds(1, 0, 1, 8, 1), 1);
        same("all of 40", x.odds(40, 0, 1, 7, 0), 1);
        same("all of 40", x.odds(40, 0, 1, 7, 1), 1);
        same("none of 40", x.odds(40, 0, 1, 8, 0), 0);
        same("none of 40", x.odds(40, 0, 1, 8, 1), 1);
        // The most that can be felt: 99 steps of a child's 198.
        UnderlayOfUnspoken y = under("0", "0", "99");
        y.person(CHILD, 0);
        same("the most", y.drawn(0, 0, 99, 0), 99 * 198);
        same("the most", y.odds(40, 0, 99, 99 * 198, 0), 1);
        same("more than the most", y.odds(40, 0, 99, 99 * 198 + 1, 0), 0);
        same("the farthest least", y.odds(40, 0, 99, 99999, 0), 0);
        same("the least", y.odds(40, 0, 99, 0, 0), 1);
    }

    // How THICK the CELLS of a ROW are, together, of ALL, in lowest terms. NO: ALL is 0.
    private static void shares() {
        UnderlayOfUnspoken x = fresh();
        for (int row = 0; row < 6; row++) {
            same("of nothing", x.share(row, 0), NO);
            same("of nothing", x.share(row, 1), NO);
        }
        for (int c = 0; c < 36; c++) {
            x.lay(c, 1);
            for (int row = 0; row < 6; row++) {
                same("of one, row " + row, x.share(row, 0), c / 6 == row ? 1 : 0);
                same("of one, row " + row, x.share(row, 1), 1);
            }
            x.lay(c, 0);
        }
        same("of nothing again", x.share(0, 0), NO);
        UnderlayOfUnspoken y = fresh();
        for (int c = 0; c < 36; c++) {
            y.lay(c, 999);
        }
        for (int row = 0; row < 6; row++) {
            same("of the most", y.share(row, 0), 1);
            same("of the most", y.share(row, 1), 6);
        }
        y.lay(35, 998);
        same("no common divisor", y.share(5, 0), 5993);
        same("no common divisor", y.share(5, 1), 35963);
        same("no common divisor", y.share(0, 0), 5994);
        same("no common divisor", y.share(0, 1), 35963);
    }

    // ======== Images

    private static void images() {
        imageOfNothing();
        imageOfAll();
        imageOverAnother();
    }

    // AN IMAGE is kept: how many PEOPLE. STATE: there is none.
    private static void imageOfNothing() {
        UnderlayOfUnspoken x = fresh();
        same("none", x.back(), -3);
        same("none yet", x.back(), -3);
        same("of nobody", x.image(), 0);
        for (int p = 0; p < 6; p++) {
            x.person(AUNT + p, 100 * p + 50);
        }
        same("a day", x.day() > 0 ? 1 : 0, 1);
        same("back to nobody", x.back(), 0);
        same("nobody", x.count(0), 0);
        same("nobody", x.told(0, 0), -5);
        same("nothing", x.count(2), 0);
        same("no day", x.count(1), 0);
        same("room for six", x.person(CALLER + 9, 3599), 0);
        same("another one", x.told(0, 2), 5);
        same("another one", x.told(0, 3), 9);
        same("back again", x.back(), 0);
        same("nobody again", x.day(), 0);
    }

    // AN IMAGE keeps how THICK all CELLS are, where all SIT, HELD, how many PEOPLE there are, DAY, THE LAW.
    private static void imageOfAll() {
        UnderlayOfUnspoken x = under("held", "1", "1");
        for (int p = 0; p < 6; p++) {
            x.person(9 - p, 100 * (30 + p) + p);
        }
        for (int c = 0; c < 36; c++) {
            x.lay(c, 999 - c);
        }
        x.day();
        same("of six", x.image(), 6);
        int all = x.count(2);
        for (int p = 0; p < 6; p++) {
            x.put(p, 0, 0);
            x.put(p, 1, 99);
        }
        for (int c = 0; c < 36; c++) {
            x.lay(c, 0);
        }
        x.force(0);
        x.day();
        x.day();
        same("back to six", x.back(), 6);
        same("ALL", x.count(2), all);
        same("DAY", x.count(1), 1);
        same("THE LAW", x.count(4), 1);
        for (int p = 0; p < 6; p++) {
            same("seat", x.told(p, 0), 30 + p);
            same("held", x.told(p, 1), p);
            same("kind", x.told(p, 2), 0);
            same("more", x.told(p, 3), 9 - p);
        }
        for (int c = 0; c < 36; c++) {
            same("under", x.under(c), Math.min(999, 999 - c + (c >= 30 ? c - 30 : 0)));
        }
        same("full as it was", x.person(0, 0), -4);
    }

    private static void imageOverAnother() {
        UnderlayOfUnspoken x = fresh();
        x.lay(0, 1);
        same("the first", x.image(), 0);
        x.lay(0, 2);
        x.person(0, 0);
        same("the second is kept instead", x.image(), 1);
        x.lay(0, 3);
        same("back", x.back(), 1);
        same("back to the second", x.under(0), 2);
        x.lay(0, 4);
        x.put(0, 1, 9);
        same("back", x.back(), 1);
        same("what was changed behind back is not kept", x.under(0), 2);
        same("what was changed behind back is not kept", x.told(0, 1), 0);
        // TEXTS, THE TAPE and SHEETS are not in it: they stay.
        Checks.text(x, "leaves 1;wears 1;feels 1;");
        x.feed(1, 'a', 0, 0, 0, 0);
        x.sheet(3, 2, 1);
        x.force(1);
        same("back", x.back(), 1);
        same("texts stay", x.count(3), 2);
        same("the tape stays", x.count(5), 1);
        same("sheets stay", x.cell(3, 0, 1), 1);
        same("the law is as it was", x.count(4), 0);
    }

    // ======== The host

    private static void host() {
        sheetsAnew();
        copiesAtTheEdges();
        copiesOntoItself();
        peopleOfNone();
        peopleToTheEnd();
        peopleLeftOut();
        sheetsOfBytesForPeople();
    }

    // A SHEET becomes a row of n of a sort, all 0, or missing (sort -1: n does not matter): 1.
    private static void sheetsAnew() {
        UnderlayOfUnspoken x = fresh();
        for (int sort = 0; sort <= 2; sort++) {
            same("of 40", x.sheet(0, sort, 40), 1);
            for (int i = 0; i < 40; i++) {
                same("place " + i, x.cell(0, i, 35), 1);
            }
            same("place 40", x.cell(0, 40, 35), -12);
            same("anew, all 0", x.sheet(0, sort, 20), 1);
            same("anew, all 0", x.judge(0, 0), -1);
            same("anew of none", x.sheet(0, sort, 0), 1);
            same("anew of none", x.cell(0, 0, 1), -12);
        }
        same("missing", x.sheet(0, -1, 0), 1);
        same("missing", x.cell(0, 0, 0), -11);
        same("missing again", x.sheet(0, -1, 41), 1);
        same("missing to all", x.walk(0, 0, 0), -11);
        same("missing to all", x.tread(0, 0), -11);
        same("missing to all", x.judge(0, 0), -11);
        same("missing to all", x.laws(0, 0), -11);
        same("missing to all", x.peopleBy(0, 0, 0, 0), -11);
        same("missing to all", x.copy(0, 0, 0, 0, 0), -11);
        same("there again, all 0", x.sheet(0, 0, 20), 1);
        same("there again, all 0", x.judge(0, 0), -1);
        for (int s = 1; s < 4; s++) {
            same("the others are missing still", x.cell(s, 0, 0), -11);
        }
    }

    /** Whether a sheet of ints holds these, told by how thick a cell is on which nobody leaves anything. */
    private static boolean holds(UnderlayOfUnspoken x, int s, int... numbers) {
        boolean all = x.copy(s, numbers.length, s, numbers.length, 0) == 0 && x.cell(s, numbers.length, 0) == -12;
        x.sheet(3, 2, 1);
        for (int i = 0; i < numbers.length; i++) {
            x.lay(0, numbers[i]);
            all = all && x.copy(s, i, 3, 0, 1) == 1 && x.judge(3, 0) == -1;
        }
        return all;
    }

    // -12 (n below 0, too)
    private static void copiesAtTheEdges() {
        UnderlayOfUnspoken x = fresh();
        Checks.fill(x, 0, 2, 1, 2, 3, 4, 5);
        Checks.fill(x, 1, 2, 11, 12, 13);
        same("all of the shorter", x.copy(1, 0, 0, 2, 3), 3);
        DUE.holds("all of the shorter", holds(x, 0, 1, 2, 11, 12, 13));
        same("one more than there is", x.copy(1, 0, 0, 0, 4), -12);
        same("one more than has room", x.copy(1, 0, 0, 3, 3), -12);
        same("the last alone", x.copy(0, 4, 1, 2, 1), 1);
        same("the last to the first", x.copy(0, 4, 1, 0, 1), 1);
        DUE.holds("the last alone", holds(x, 1, 13, 12, 13));
        same("none from the end", x.copy(0, 5, 1, 3, 0), 0);
        same("none from beyond the end", x.copy(0, 6, 1, 0, 0), -12);
        same("none to beyond the end", x.copy(0, 0, 1, 4, 0), -12);
        same("none from below 0", x.copy(0, -1, 1, 0, 0), -12);
        same("none to below 0", x.copy(0, 0, 1, -1, 0), -12);
        same("n below 0", x.copy(0, 1, 1, 1, -1), -12);
        DUE.holds("nothing came", holds(x, 1, 13, 12, 13) && holds(x, 0, 1, 2, 11, 12, 13));
        x.sheet(0, 2, 0);
        same("none of none", x.copy(0, 0, 0, 0, 0), 0);
        same("one of none", x.copy(0, 0, 0, 0, 1), -12);
        x.sheet(0, 2, 40);
        x.sheet(1, 2, 40);
        same("forty", x.copy(0, 0, 1, 0, 40), 40);
        same("forty one", x.copy(0, 0, 1, 0, 41), -12);
        same("forty from 1", x.copy(0, 1, 1, 0, 40), -12);
        same("forty to 1", x.copy(0, 0, 1, 1, 40), -12);
    }

    // n numbers of a SHEET, from i on, come to another one's (or its own) place j (as they were): n.
    private static void copiesOntoItself() {
        for (int i = 0; i <= 5; i++) {
            for (int j = 0; j <= 5; j++) {
                for (int n = 0; n <= 5; n++) {
                    UnderlayOfUnspoken x = fresh();
                    int[] due = {1, 2, 3, 4, 5};
                    Checks.fill(x, 0, 2, due);
                    boolean fits = i + n <= 5 && j + n <= 5;
                    if (fits) {
                        System.arraycopy(new int[] {1, 2, 3, 4, 5}, i, due, j, n);
                    }
                    same("onto itself " + i + " " + j + " " + n, x.copy(0, i, 0, j, n), fits ? n : -12);
                    DUE.holds("as they were " + i + " " + j + " " + n + Arrays.toString(due), holds(x, 0, due));
                }
            }
        }
    }

    // n of them (0 .. 6): how many came
    private static void peopleOfNone() {
        for (int sort = 0; sort <= 2; sort++) {
            UnderlayOfUnspoken x = fresh();
            x.sheet(0, sort, 0);
            same("none of none", x.peopleBy(0, sort, 0, 0), 0);
            same("one of none", x.peopleBy(0, sort, 0, 1), -12);
            x.sheet(0, sort, 1);
            same("half a pair", x.peopleBy(0, sort, 0, 1), -12);
            same("half a pair brings nobody", x.count(0), 0);
            x.sheet(0, sort, 2);
            same("a pair", x.peopleBy(0, sort, 0, 1), 1);
            same("none from beyond", x.peopleBy(0, sort, 9, 0), 0);
            same("from a second pair", x.peopleBy(0, sort, 2, 1), -12);
            same("from below 0", x.peopleBy(0, sort, -1, 1), -12);
            same("from -2, of which the second would be there", x.peopleBy(0, sort, -2, 2), -12);
            same("one is there", x.count(0), 1);
        }
    }

    // -12: what stood ahead came
    private static void peopleToTheEnd() {
        for (int size = 0; size <= 12; size++) {
            UnderlayOfUnspoken x = fresh();
            x.sheet(0, 1, size);
            same("six of " + size, x.peopleBy(0, 1, 0, 6), size == 12 ? 6 : -12);
            same("what stood ahead came, of " + size, x.count(0), size / 2);
            UnderlayOfUnspoken y = fresh();
            y.sheet(0, 1, size);
            same("six from 1 of " + size, y.peopleBy(0, 1, 1, 6), -12);
            same("what stood ahead came, from 1 of " + size, y.count(0), Math.max(0, (size - 1) / 2));
        }
        UnderlayOfUnspoken z = fresh();
        z.sheet(0, 1, 40);
        same("the last pair", z.peopleBy(0, 1, 38, 1), 1);
        same("the last number", z.peopleBy(0, 1, 39, 1), -12);
        same("the last six pairs", z.peopleBy(0, 1, 28, 6), 5);
        same("six", z.count(0), 6);
        same("full, and to the end", z.peopleBy(0, 1, 28, 6), 0);
        same("full, and beyond the end", z.peopleBy(0, 1, 29, 6), -12);
    }

    // (others are left out)
    private static void peopleLeftOut() {
        UnderlayOfUnspoken x = fresh();
        Checks.fill(x, 0, 2, 60, 0, 59, 3599, 0, 3600, -1, 0, 0, -1, 0, 0);
        same("two of six", x.peopleBy(0, 2, 0, 6), 2);
        same("the second pair is the first to come", x.told(0, 2), 5);
        same("the second pair", x.told(0, 3), 9);
        same("the second pair", x.told(0, 0), 35);
        same("the second pair", x.told(0, 1), 99);
        same("the last pair", x.told(1, 0), 0);
        same("nobody else", x.told(2, 0), -5);
        same("none of one", x.peopleBy(0, 2, 0, 1), 0);
        same("none of one", x.peopleBy(0, 2, 4, 3), 0);
        // Only as many come as have room.
        x.person(0, 0);
        x.person(0, 0);
        x.person(0, 0);
        Checks.fill(x, 1, 2, 1, 1, 2, 2, 3, 3);
        same("room for one of three", x.peopleBy(1, 2, 0, 3), 1);
        same("the first of them", x.told(5, 3), 1);
        same("six", x.count(0), 6);
    }

    private static void sheetsOfBytesForPeople() {
        UnderlayOfUnspoken x = fresh();
        Checks.fill(x, 0, 0, 256 + 13, 127, 13, 128, 13, 255);
        same("bytes wrap", x.peopleBy(0, 0, 0, 3), 1);
        same("bytes wrap", x.told(0, 2), 1);
        same("bytes wrap", x.told(0, 3), 3);
        same("127", x.told(0, 0), 1);
        same("127", x.told(0, 1), 27);
    }
}
