/**
 * "REFUSALS, of several the first one told. They change nothing, but where it is told. What is asked
 * changes nothing, but where it is told.": each call below meets an object with a bit of everything,
 * must answer as due, and must leave all that can be asked of the object as it was.
 */
public final class RefusalTest {
    private static final long NO = -4611686018427387904L;
    private static final int LOW = Integer.MIN_VALUE, HIGH = Integer.MAX_VALUE;
    private static final int BAD = -2, STATE = -3, FULL = -4;
    private static final Checks DUE = new Checks();

    // What the sheets of a prepared object hold: a walk, a tale that is no walk, a tale that is too long, nothing.
    private static final int WALK = 0, TALE = 1, LONG = 2, MISSING = 3;
    private static final int[][] HELD = {{0, 1, 7, 8, 14}, {44, 9, 60}, new int[21], {}};
    private static final int[] SORT = {2, 1, 0, -1};

    interface Call {
        long on(UnderlayOfUnspoken x);
    }

    interface Setup {
        UnderlayOfUnspoken make();
    }

    public static void main(String[] args) {
        seesChanges();
        roomLawPeople();
        fullObject();
        days();
        walks();
        best();
        toldDays();
        callers();
        host();
        hostCopies();
        asked();
        changesWhereTold();
        DUE.end();
    }

    // ---- the object that is met

    /** Four people, two texts, day 1, an image that is otherwise, five bytes on the tape, three sheets. */
    private static UnderlayOfUnspoken prepared() {
        UnderlayOfUnspoken x = new UnderlayOfUnspoken();
        Checks.text(x, "leaves 3;wears 2;feels thick;");
        x.person(3, 720);
        x.person(14, 830);
        x.person(49, 2110);
        x.lay(0, 5);
        x.lay(7, 30);
        x.lay(8, 12);
        x.lay(29, 9);
        x.day();
        x.image();
        x.lay(1, 4);
        x.put(0, 1, 44);
        x.put(2, 0, 20);
        x.person(20, 3);
        x.force(1);
        x.day();
        Checks.feed(x, "leave");
        for (int s = 0; s < MISSING; s++) {
            Checks.fill(x, s, SORT[s], HELD[s]);
        }
        return x;
    }

    /** Six people, six texts, a full tape (that is no text), every sheet as long as can be. */
    private static UnderlayOfUnspoken full() {
        UnderlayOfUnspoken x = new UnderlayOfUnspoken();
        for (int p = 0; p < 6; p++) {
            x.person(11 * p, 707 + 100 * p);
        }
        for (int t = 1; t < 6; t++) {
            Checks.text(x, "leaves " + t + ";wears 0;feels 0;");
        }
        Checks.feed(x, "no text ".repeat(20));
        for (int s = 0; s < 4; s++) {
            x.sheet(s, 0, 40);
        }
        return x;
    }

    private static void standing(UnderlayOfUnspoken x, StringBuilder told) {
        for (int what = 0; what <= 5; what++) {
            told.append(" count ").append(what).append(':').append(x.count(what));
        }
        for (int c = 0; c < 36; c++) {
            told.append(" under ").append(c).append(':').append(x.under(c));
        }
        for (int p = 0; p < 6; p++) {
            for (int what = 0; what <= 3; what++) {
                told.append(" told ").append(p).append(' ').append(what).append(':').append(x.told(p, what));
            }
        }
    }

    /** A sheet's sort and size, and whether its numbers are those (which nobody's leaving may disturb). */
    private static void sheet(UnderlayOfUnspoken x, int s, int[] held, StringBuilder told) {
        told.append(" sheet ").append(s).append(':');
        int sort = -1;
        for (int t = 0; t <= 2; t++) {
            int came = x.peopleBy(s, t, 0, 0);
            told.append(came).append(' ');
            sort = came == 0 ? t : sort;
        }
        told.append(x.copy(s, held.length, s, held.length, 0)).append(' ').append(x.copy(s, 0, s, 0, held.length + 1));
        for (int i = 0; i < held.length; i++) {
            int other = (s + 1) % 4;
            x.sheet(other, sort, 1);
            told.append(' ').append(x.copy(s, i, other, 0, 1));
            x.lay(35, held[i]);
            told.append(' ').append(x.judge(other, 35));
        }
    }

    /** All that can be asked of a prepared object; each sheet is asked of an object of its own. */
    private static String all(Setup setup, Call call) {
        StringBuilder told = new StringBuilder();
        UnderlayOfUnspoken x = setup.make();
        call.on(x);
        standing(x, told);
        told.append(" image:").append(x.back());
        standing(x, told);
        for (int s = 0; s < 4; s++) {
            UnderlayOfUnspoken y = setup.make();
            call.on(y);
            sheet(y, s, HELD[s], told);
        }
        UnderlayOfUnspoken z = setup.make();
        call.on(z);
        Checks.feed(z, "s 7;wears 8;feels 9;");
        told.append(" text:").append(z.text());
        for (int t = 0; t < 6; t++) {
            told.append(' ').append(z.force(t));
            for (int part = 0; part < 3; part++) {
                told.append(' ').append(z.asks(part, 0, 7));
            }
        }
        return told.toString();
    }

    private static final String UNTOUCHED = all(RefusalTest::prepared, x -> 0);
    private static final String FULL_UNTOUCHED = all(RefusalTest::full, x -> 0);

    private static void same(String name, Call call, long due) {
        DUE.same(name, call.on(prepared()), due);
        DUE.holds(name + " changes nothing", all(RefusalTest::prepared, call).equals(UNTOUCHED));
    }

    private static void sameOfFull(String name, Call call, long due) {
        DUE.same(name, call.on(full()), due);
        DUE.holds(name + " changes nothing", all(RefusalTest::full, call).equals(FULL_UNTOUCHED));
    }

    /** What is compared here must show each thing that a call can change. */
    private static void seesChanges() {
        Call[] changes = {
            x -> x.lay(35, 1), x -> x.lay(29, 8), x -> x.put(3, 0, 1), x -> x.put(3, 1, 4), x -> x.person(0, 0),
            x -> x.day(), x -> x.force(0), x -> x.text(), x -> x.feed(1, ' ', 0, 0, 0, 0), x -> x.feed(1, 'a', 0, 0, 0, 0),
            x -> x.image(), x -> x.back(), x -> x.tread(WALK, 0), x -> x.film(WALK, 7, 5), x -> x.film(MISSING, 7, 0),
            x -> x.sheet(MISSING, 0, 0), x -> x.sheet(WALK, 2, 5), x -> x.sheet(LONG, 0, 22), x -> x.sheet(LONG, 1, 21),
            x -> x.sheet(TALE, -1, 0), x -> x.cell(WALK, 4, 15), x -> x.cell(TALE, 0, 45), x -> x.cell(LONG, 20, 1),
            x -> x.copy(WALK, 0, WALK, 1, 1), x -> x.peopleBy(WALK, 2, 0, 1),
        };
        for (int i = 0; i < changes.length; i++) {
            DUE.holds("change " + i + " is seen", !all(RefusalTest::prepared, changes[i]).equals(UNTOUCHED));
        }
    }

    // ---- refusals, alone and one ahead of another

    private static void roomLawPeople() {
        same("count", x -> x.count(6), BAD);
        same("lay c", x -> x.lay(36, 1), -5);
        same("lay c ahead of v", x -> x.lay(-1, 1000), -5);
        same("lay c ahead of v", x -> x.lay(HIGH, -1), -5);
        same("lay v", x -> x.lay(35, 1000), -7);
        same("lay v", x -> x.lay(0, -1), -7);
        same("under", x -> x.under(36), -5);
        same("feed n", x -> x.feed(0, 1, 2, 3, 4, 5), BAD);
        same("feed n", x -> x.feed(6, 1, 2, 3, 4, 5), BAD);
        same("feed a", x -> x.feed(2, 256, 2, 3, 4, 5), BAD);
        same("feed e", x -> x.feed(2, 1, 2, 3, 4, -1), BAD);
        same("force", x -> x.force(2), BAD);
        same("force", x -> x.force(-1), BAD);
        same("asks part", x -> x.asks(3, 0, 7), -1000);
        same("asks p", x -> x.asks(0, 4, 7), -1000);
        same("asks c", x -> x.asks(0, 0, 36), -1000);
        same("asks all", x -> x.asks(-1, -1, -1), -1000);
        same("person kindMore", x -> x.person(60, 0), BAD);
        same("person seatHeld", x -> x.person(0, 3600), BAD);
        same("person both", x -> x.person(-1, -1), BAD);
        same("put p", x -> x.put(4, 0, 0), -5);
        same("put p ahead of what", x -> x.put(4, 2, 0), -5);
        same("put p ahead of v", x -> x.put(-1, 0, 36), -5);
        same("put what", x -> x.put(0, 2, 0), -7);
        same("put v", x -> x.put(0, 0, 36), -7);
        same("put v", x -> x.put(0, 1, 100), -7);
        same("put KIND is not put", x -> x.put(0, 2, 1), -7);
        same("put MORE is not put", x -> x.put(0, 3, 1), -7);
        same("told p", x -> x.told(4, 0), -5);
        same("told p ahead of what", x -> x.told(4, 4), -5);
        same("told what", x -> x.told(0, 4), -7);
    }

    private static void fullObject() {
        sameOfFull("feed full", x -> x.feed(1, 1, 2, 3, 4, 5), FULL);
        sameOfFull("feed bad ahead of full, n", x -> x.feed(6, 1, 2, 3, 4, 5), BAD);
        sameOfFull("feed bad ahead of full, n", x -> x.feed(0, 1, 2, 3, 4, 5), BAD);
        sameOfFull("feed bad ahead of full, a", x -> x.feed(1, -1, 2, 3, 4, 5), BAD);
        sameOfFull("feed bad ahead of full, e", x -> x.feed(1, 1, 2, 3, 4, 256), BAD);
        sameOfFull("text full ahead of the fault", x -> x.text(), FULL);
        sameOfFull("person full", x -> x.person(0, 0), FULL);
        sameOfFull("person bad ahead of full, kindMore", x -> x.person(60, 0), BAD);
        sameOfFull("person bad ahead of full, kindMore", x -> x.person(-1, 0), BAD);
        sameOfFull("person bad ahead of full, seatHeld", x -> x.person(0, 3600), BAD);
        sameOfFull("person bad ahead of full, seatHeld", x -> x.person(0, -1), BAD);
        sameOfFull("back without an image", x -> x.back(), STATE);
        sameOfFull("peopleBy into a full room", x -> x.peopleBy(0, 0, 0, 6), 0);
        sameOfFull("peopleBy into a full room, outside", x -> x.peopleBy(0, 0, 30, 6), -12);
    }

    private static void days() {
        same("leaves p", x -> x.leaves(4, 0, 0), -1005);
        same("leaves p ahead of c", x -> x.leaves(4, 36, 0), -1005);
        same("leaves p ahead of what", x -> x.leaves(-1, 0, 2), -1005);
        same("leaves c", x -> x.leaves(0, 36, 1), -1007);
        same("leaves what", x -> x.leaves(0, 0, 2), -1007);
        same("run n", x -> x.run(41, 0), BAD);
        same("run what", x -> x.run(0, 37), BAD);
        same("sinks c", x -> x.sinks(36, 0), -5);
        same("sinks c ahead of need", x -> x.sinks(36, 1000), -5);
        same("sinks need", x -> x.sinks(0, 1000), -7);
    }

    private static void walks() {
        same("walk s", x -> x.walk(4, 0, 0), BAD);
        same("walk s ahead of p", x -> x.walk(4, 4, 0), BAD);
        same("walk s ahead of what", x -> x.walk(-1, 0, 4), BAD);
        same("walk missing", x -> x.walk(MISSING, 0, 0), -11);
        same("walk missing ahead of p", x -> x.walk(MISSING, 4, 0), -11);
        same("walk missing ahead of what", x -> x.walk(MISSING, 0, 4), -11);
        same("walk that is none", x -> x.walk(TALE, 0, 0), BAD);
        same("walk that is none ahead of p", x -> x.walk(TALE, 4, 0), BAD);
        same("walk that is none ahead of what", x -> x.walk(LONG, 0, 4), BAD);
        same("walk p", x -> x.walk(WALK, 4, 0), -5);
        same("walk p ahead of what", x -> x.walk(WALK, 4, 4), -5);
        same("walk what", x -> x.walk(WALK, 0, 4), -7);
        same("tread s", x -> x.tread(4, 0), BAD);
        same("tread s ahead of p", x -> x.tread(-1, 4), BAD);
        same("tread missing", x -> x.tread(MISSING, 0), -11);
        same("tread missing ahead of p", x -> x.tread(MISSING, 4), -11);
        same("tread that is none", x -> x.tread(TALE, 0), BAD);
        same("tread that is none ahead of p", x -> x.tread(TALE, 4), BAD);
        same("tread p", x -> x.tread(WALK, 4), -5);
        same("way p", x -> x.way(4, 0, 0, 0), -5);
        same("way p ahead of cells", x -> x.way(4, 36, 0, 0), -5);
        same("way p ahead of limit", x -> x.way(4, 0, 1000, 0), -5);
        same("way p ahead of what", x -> x.way(4, 0, 0, 2), -5);
        same("way cells", x -> x.way(0, 36, 0, 0), -7);
        same("way limit, also where it isn't used", x -> x.way(0, 0, 1000, 0), -7);
        same("way what", x -> x.way(0, 0, 0, 2), -7);
        same("heap c", x -> x.heap(36, 0, 0), NO);
        same("heap least", x -> x.heap(0, 1000, 0), NO);
        same("heap what", x -> x.heap(0, 0, 3), NO);
        same("room least, also where it isn't used", x -> x.room(1000, 0), BAD);
        same("room what", x -> x.room(0, 3), BAD);
    }

    private static void best() {
        same("turn n", x -> x.turn(41, 0), BAD);
        same("turn what", x -> x.turn(0, 2), BAD);
        same("seats p", x -> x.seats(4, 0, 0), -5);
        same("seats p ahead of n", x -> x.seats(4, 21, 0), -5);
        same("seats p ahead of what", x -> x.seats(4, 0, 2), -5);
        same("seats n", x -> x.seats(0, 21, 0), -7);
        same("seats what", x -> x.seats(0, 0, 2), -7);
    }

    interface Tale {
        long on(UnderlayOfUnspoken x, int s, int c, int p, int what);
    }

    /** The refusals of a call about told days, each ahead of all that are told behind it. */
    private static void tale(String name, Tale call, boolean ofOne, boolean asksWhat) {
        for (int c : new int[] {7, 36}) {
            for (int p : ofOne ? new int[] {0, 4} : new int[] {0}) {
                for (int what : asksWhat ? new int[] {0, 2} : new int[] {0}) {
                    String of = name + " " + c + " " + p + " " + what;
                    same(of + ", no sheet", x -> call.on(x, 4, c, p, what), BAD);
                    same(of + ", missing", x -> call.on(x, MISSING, c, p, what), -11);
                    same(of + ", too long", x -> call.on(x, LONG, c, p, what), BAD);
                    if (c == 36) {
                        same(of + ", no cell", x -> call.on(x, TALE, c, p, what), -5);
                    } else if (p == 4) {
                        same(of + ", no person", x -> call.on(x, TALE, c, p, what), -6);
                    } else if (what == 2) {
                        same(of + ", what", x -> call.on(x, TALE, c, p, what), -7);
                    }
                }
            }
        }
    }

    private static void toldDays() {
        tale("judge", (x, s, c, p, what) -> x.judge(s, c), false, false);
        tale("laws", (x, s, c, p, what) -> x.laws(s, c), false, false);
        tale("kinds", (x, s, c, p, what) -> x.kinds(s, c, p, what), true, true);
        tale("holds", (x, s, c, p, what) -> x.holds(s, c, p, what), true, true);
        same("where, no sheet", x -> x.where(4, 7, 0), NO);
        same("where, missing", x -> x.where(MISSING, 7, 0), NO);
        same("where, too long", x -> x.where(LONG, 7, 0), NO);
        same("where, no cell", x -> x.where(TALE, 36, 0), NO);
        same("where, no person", x -> x.where(TALE, 7, 4), NO);
        same("film s", x -> x.film(4, 7, 1), BAD);
        same("film s ahead of c", x -> x.film(4, 36, 1), BAD);
        same("film s ahead of n", x -> x.film(4, 7, 21), BAD);
        same("film c", x -> x.film(WALK, 36, 1), -5);
        same("film c ahead of n", x -> x.film(WALK, 36, 21), -5);
        same("film c, missing", x -> x.film(MISSING, 36, 1), -5);
        same("film n", x -> x.film(WALK, 7, 21), -7);
        same("film n", x -> x.film(MISSING, 7, -1), -7);
    }

    private static void callers() {
        same("drawn p", x -> x.drawn(1, 4, 707, 0), -5);
        same("drawn p ahead of seed", x -> x.drawn(-1, 4, 707, 0), -5);
        same("drawn p ahead of cellSteps", x -> x.drawn(1, 4, 3600, 0), -5);
        same("drawn p ahead of what", x -> x.drawn(1, 4, 707, 2), -5);
        same("drawn seed", x -> x.drawn(100000, 0, 707, 0), -7);
        same("drawn cellSteps", x -> x.drawn(1, 0, 3600, 0), -7);
        same("drawn what", x -> x.drawn(1, 0, 707, 2), -7);
        same("odds seeds", x -> x.odds(100, 0, 707, 1, 0), NO);
        same("odds p", x -> x.odds(101, 4, 707, 1, 0), NO);
        same("odds cellSteps", x -> x.odds(101, 0, 3600, 1, 0), NO);
        same("odds least", x -> x.odds(101, 0, 707, 100000, 0), NO);
        same("odds part", x -> x.odds(101, 0, 707, 1, 2), NO);
        same("share row", x -> x.share(6, 0), NO);
        same("share part", x -> x.share(0, 2), NO);
        sameOfFull("share of nothing", x -> x.share(0, 0), NO);
    }

    private static void host() {
        same("sheet s", x -> x.sheet(4, 0, 1), BAD);
        same("sheet s ahead of a size below 0", x -> x.sheet(4, 0, -1), BAD);
        same("sheet sort", x -> x.sheet(WALK, 3, 1), BAD);
        same("sheet sort ahead of a size below 0", x -> x.sheet(WALK, -2, -1), BAD);
        same("sheet n", x -> x.sheet(WALK, 0, 41), BAD);
        same("sheet n of the missing", x -> x.sheet(MISSING, 0, 41), BAD);
        same("sheet size below 0", x -> x.sheet(WALK, 0, -1), -14);
        same("sheet size below 0 of the missing", x -> x.sheet(MISSING, 2, LOW), -14);
        same("sheet that isn't there becomes missing", x -> x.sheet(4, -1, 0), BAD);
        same("cell s", x -> x.cell(4, 0, 1), BAD);
        same("cell s ahead of i", x -> x.cell(4, -1, 1), BAD);
        same("cell missing", x -> x.cell(MISSING, 0, 1), -11);
        same("cell missing ahead of i", x -> x.cell(MISSING, -1, 1), -11);
        same("cell i", x -> x.cell(WALK, 5, 1), -12);
        same("cell i", x -> x.cell(WALK, -1, 1), -12);
        same("peopleBy s", x -> x.peopleBy(4, 0, 0, 1), BAD);
        same("peopleBy s ahead of from", x -> x.peopleBy(4, 0, -1, 1), BAD);
        same("peopleBy sort ahead of missing", x -> x.peopleBy(MISSING, 3, 0, 1), BAD);
        same("peopleBy sort is none, not missing", x -> x.peopleBy(MISSING, -1, 0, 1), BAD);
        same("peopleBy n ahead of missing", x -> x.peopleBy(MISSING, 0, 0, 7), BAD);
        same("peopleBy n ahead of unlike", x -> x.peopleBy(WALK, 0, 0, 7), BAD);
        same("peopleBy n ahead of from", x -> x.peopleBy(WALK, 2, 9, -1), BAD);
        same("peopleBy missing", x -> x.peopleBy(MISSING, 0, 0, 1), -11);
        same("peopleBy missing ahead of from", x -> x.peopleBy(MISSING, 0, -1, 1), -11);
        same("peopleBy missing, none asked", x -> x.peopleBy(MISSING, 0, 0, 0), -11);
        same("peopleBy unlike", x -> x.peopleBy(WALK, 0, 0, 1), -13);
        same("peopleBy unlike", x -> x.peopleBy(TALE, 2, 0, 1), -13);
        same("peopleBy unlike ahead of from", x -> x.peopleBy(LONG, 1, -1, 1), -13);
        same("peopleBy unlike, none asked", x -> x.peopleBy(LONG, 1, 0, 0), -13);
        same("peopleBy from", x -> x.peopleBy(WALK, 2, 4, 1), -12);
        same("peopleBy from", x -> x.peopleBy(WALK, 2, -1, 1), -12);
        same("taken kind", x -> x.taken(0, 7), BAD);
        same("taken kind ahead of i", x -> x.taken(42, 7), BAD);
        same("taken kind ahead of none such", x -> x.taken(4, -1), BAD);
        same("taken i", x -> x.taken(42, 0), -12);
        same("taken none such", x -> x.taken(4, 0), -11);
        same("taken none such ahead of unlike", x -> x.taken(5, 6), -11);
        same("taken unlike", x -> x.taken(0, 1), -13);
        same("taken one for a cell", x -> x.taken(0, 6), -13);
        same("taken a cell for one", x -> x.taken(6, 0), -13);
    }

    private static void hostCopies() {
        same("copy s", x -> x.copy(4, 0, WALK, 0, 1), BAD);
        same("copy other", x -> x.copy(WALK, 0, 4, 0, 1), BAD);
        same("copy s ahead of missing", x -> x.copy(4, 0, MISSING, 0, 1), BAD);
        same("copy other ahead of missing", x -> x.copy(MISSING, 0, -1, 0, 1), BAD);
        same("copy s ahead of places", x -> x.copy(-1, -1, WALK, -1, -1), BAD);
        same("copy missing", x -> x.copy(MISSING, 0, WALK, 0, 1), -11);
        same("copy other missing", x -> x.copy(WALK, 0, MISSING, 0, 1), -11);
        same("copy missing to itself", x -> x.copy(MISSING, 0, MISSING, 0, 0), -11);
        same("copy missing ahead of places", x -> x.copy(MISSING, -1, WALK, 0, 1), -11);
        same("copy other missing ahead of n", x -> x.copy(WALK, 0, MISSING, 0, -1), -11);
        same("copy unlike", x -> x.copy(WALK, 0, TALE, 0, 1), -13);
        same("copy unlike, none", x -> x.copy(TALE, 0, LONG, 0, 0), -13);
        same("copy unlike ahead of i", x -> x.copy(WALK, -1, TALE, 0, 1), -13);
        same("copy unlike ahead of j", x -> x.copy(WALK, 0, TALE, 9, 1), -13);
        same("copy unlike ahead of n", x -> x.copy(LONG, 0, WALK, 0, -1), -13);
        same("copy i", x -> x.copy(WALK, 3, WALK, 0, 3), -12);
        same("copy j", x -> x.copy(WALK, 0, WALK, 3, 3), -12);
        same("copy n", x -> x.copy(WALK, 0, WALK, 1, -1), -12);
        same("copy n wraps around with i", x -> x.copy(WALK, 2, WALK, 0, HIGH), -12);
        same("copy n wraps around with j", x -> x.copy(WALK, 0, WALK, 2, HIGH), -12);
        same("copy i wraps around with n", x -> x.copy(WALK, HIGH, WALK, 0, 2), -12);
        same("copy j wraps around with n", x -> x.copy(WALK, 0, WALK, HIGH, 2), -12);
        same("copy all lowest", x -> x.copy(WALK, LOW, WALK, LOW, LOW), -12);
    }

    // ---- what is asked

    private static void asks(String name, Call call) {
        DUE.holds(name + " changes nothing", all(RefusalTest::prepared, call).equals(UNTOUCHED));
    }

    private static void asked() {
        asks("count", x -> x.count(2));
        asks("under", x -> x.under(7));
        asks("asks", x -> x.asks(0, 0, 7));
        asks("told", x -> x.told(0, 0));
        for (int what = 0; what <= 1; what++) {
            int w = what;
            asks("leaves", x -> x.leaves(1, 8, w));
            asks("way", x -> x.way(0, 35, 20, w));
            asks("turn", x -> x.turn(40, w));
            asks("seats", x -> x.seats(0, 20, w));
            asks("kinds", x -> x.kinds(TALE, 7, 0, w));
            asks("holds", x -> x.holds(TALE, 7, 0, w));
            asks("drawn", x -> x.drawn(5, 0, 799, w));
            asks("odds", x -> x.odds(540, 0, 799, 30, w));
            asks("share", x -> x.share(1, w));
        }
        for (int what = 0; what <= 3; what++) {
            int w = what;
            asks("walk", x -> x.walk(WALK, 0, w));
            asks("heap", x -> x.heap(7, 1, w));
            asks("room", x -> x.room(1, w));
        }
        asks("run", x -> x.run(40, 7));
        asks("run", x -> x.run(40, 36));
        asks("sinks", x -> x.sinks(7, 999));
        asks("judge", x -> x.judge(TALE, 7));
        asks("where", x -> x.where(TALE, 7, 0));
        asks("laws", x -> x.laws(TALE, 7));
        asks("taken", x -> x.taken(0, 0));
        asks("taken", x -> x.taken(13, 6));
        asks("the law is THE LAW again", x -> x.force(1));
        asks("nothing is copied", x -> x.copy(WALK, 1, WALK, 0, 0));
        asks("nobody is brought", x -> x.peopleBy(WALK, 2, 0, 0));
    }

    // ---- refused, and something changes: where it is told

    private static void changesWhereTold() {
        // THE TAPE, which is empty then (by a FAULT, too).
        UnderlayOfUnspoken x = prepared();
        DUE.same("a fault", x.text(), -100);
        DUE.same("the tape is empty by a fault", x.count(5), 0);
        DUE.same("texts behind a fault", x.count(3), 2);
        DUE.same("the law behind a fault", x.count(4), 1);
        // -12: what stood ahead came.
        UnderlayOfUnspoken y = prepared();
        DUE.same("outside, behind two that came", y.peopleBy(WALK, 2, 0, 3), -12);
        DUE.same("what stood ahead came", y.count(0), 6);
        DUE.same("the first that came", y.told(4, 3), 0);
        DUE.same("the second that came", y.told(5, 3), 7);
    }
}
