/**
 * Each number that the document bounds, in each call: its least and its most are taken, one below,
 * one above and the farthest that an int can be are refused, as is told of just that call.
 */
public final class RangeTest {
    private static final long NO = -4611686018427387904L;
    private static final int LOW = Integer.MIN_VALUE, HIGH = Integer.MAX_VALUE;
    private static final int NONE = -1, BAD = -2, NO_SUCH = -5, NO_SUCH_PERSON = -6, WRONG = -7, OUTSIDE = -12;
    private static final Checks DUE = new Checks();

    interface Call {
        long on(UnderlayOfUnspoken x, int v);
    }

    public static void main(String[] args) {
        room();
        law();
        people();
        days();
        walks();
        ways();
        heaps();
        best();
        toldDays();
        toldDaysOfOne();
        callers();
        shares();
        sheets();
        copies();
        host();
        DUE.end();
    }

    /** Two texts; three people, all on cell 0; sheets 0 bytes, 1 shorts, 2 and 3 ints, each a walk of two cells. */
    private static UnderlayOfUnspoken prepared() {
        UnderlayOfUnspoken x = new UnderlayOfUnspoken();
        Checks.text(x, "leaves 1;wears 1;feels 1;");
        x.person(0, 0);
        x.person(10, 5);
        x.person(20, 9);
        x.lay(0, 3);
        x.lay(5, 4);
        for (int s = 0; s < 4; s++) {
            Checks.fill(x, s, Math.min(s, 2), 0, 1);
        }
        return x;
    }

    private static void takes(String number, Call call, int v) {
        long got = call.on(prepared(), v);
        DUE.holds(number + " " + v + " is taken, answered " + got, got >= NONE);
    }

    private static void refuses(String number, Call call, int v, long refusal) {
        DUE.same(number + " " + v, call.on(prepared(), v), refusal);
    }

    private static void range(String number, int least, int most, long refusal, Call call) {
        takes(number, call, least);
        takes(number, call, most);
        refuses(number, call, least - 1, refusal);
        refuses(number, call, most + 1, refusal);
        refuses(number, call, LOW, refusal);
        refuses(number, call, HIGH, refusal);
    }

    // ---- the room, the law, people

    private static void room() {
        range("count what", 0, 5, BAD, (x, v) -> x.count(v));
        range("lay c", 0, 35, NO_SUCH, (x, v) -> x.lay(v, 5));
        range("lay v", 0, 999, WRONG, (x, v) -> x.lay(5, v));
        range("under c", 0, 35, NO_SUCH, (x, v) -> x.under(v));
    }

    private static void law() {
        range("feed n", 1, 5, BAD, (x, v) -> x.feed(v, 1, 2, 3, 4, 5));
        range("feed a", 0, 255, BAD, (x, v) -> x.feed(5, v, 2, 3, 4, 5));
        range("feed b", 0, 255, BAD, (x, v) -> x.feed(5, 1, v, 3, 4, 5));
        range("feed c", 0, 255, BAD, (x, v) -> x.feed(5, 1, 2, v, 4, 5));
        range("feed d", 0, 255, BAD, (x, v) -> x.feed(5, 1, 2, 3, v, 5));
        range("feed e", 0, 255, BAD, (x, v) -> x.feed(5, 1, 2, 3, 4, v));
        // Any of the five, also those that don't come.
        range("feed b of one", 0, 255, BAD, (x, v) -> x.feed(1, 1, v, 3, 4, 5));
        range("feed e of one", 0, 255, BAD, (x, v) -> x.feed(1, 1, 2, 3, 4, v));
        range("force t", 0, 1, BAD, (x, v) -> x.force(v));
        range("asks part", 0, 2, -1000, (x, v) -> x.asks(v, 0, 0));
        range("asks p", 0, 2, -1000, (x, v) -> x.asks(0, v, 0));
        range("asks c", 0, 35, -1000, (x, v) -> x.asks(0, 0, v));
    }

    private static void people() {
        range("person kindMore", 0, 59, BAD, (x, v) -> x.person(v, 0));
        range("person seatHeld", 0, 3599, BAD, (x, v) -> x.person(0, v));
        range("put p", 0, 2, NO_SUCH, (x, v) -> x.put(v, 0, 0));
        range("put what", 0, 1, WRONG, (x, v) -> x.put(0, v, 0));
        range("put a seat", 0, 35, WRONG, (x, v) -> x.put(0, 0, v));
        range("put held", 0, 99, WRONG, (x, v) -> x.put(0, 1, v));
        range("told p", 0, 2, NO_SUCH, (x, v) -> x.told(v, 0));
        range("told what", 0, 3, WRONG, (x, v) -> x.told(0, v));
    }

    // ---- days

    private static void days() {
        range("leaves p", 0, 2, -1005, (x, v) -> x.leaves(v, 0, 0));
        range("leaves c", 0, 35, -1007, (x, v) -> x.leaves(0, v, 0));
        range("leaves c of all", 0, 35, -1007, (x, v) -> x.leaves(0, v, 1));
        range("leaves what", 0, 1, -1007, (x, v) -> x.leaves(0, 0, v));
        range("run n", 0, 40, BAD, (x, v) -> x.run(v, 0));
        range("run what", 0, 36, BAD, (x, v) -> x.run(1, v));
        range("sinks c", 0, 35, NO_SUCH, (x, v) -> x.sinks(v, 0));
        range("sinks need", 0, 999, WRONG, (x, v) -> x.sinks(0, v));
    }

    // ---- walks

    private static void walks() {
        range("walk s", 0, 3, BAD, (x, v) -> x.walk(v, 0, 0));
        range("walk p", 0, 2, NO_SUCH, (x, v) -> x.walk(0, v, 0));
        range("walk what", 0, 3, WRONG, (x, v) -> x.walk(0, 0, v));
        range("walk's only cell", 0, 35, BAD, (x, v) -> {
            Checks.fill(x, 2, 2, v);
            return x.walk(2, 0, 0);
        });
        range("tread s", 0, 3, BAD, (x, v) -> x.tread(v, 0));
        range("tread p", 0, 2, NO_SUCH, (x, v) -> x.tread(0, v));
        range("tread's only cell", 0, 35, BAD, (x, v) -> {
            Checks.fill(x, 2, 2, v);
            return x.tread(2, 0);
        });
    }

    private static void ways() {
        range("way p", 0, 2, NO_SUCH, (x, v) -> x.way(v, 105, 0, 0));
        range("way cells", 0, 3535, WRONG, (x, v) -> x.way(0, v, 0, 0));
        for (int what = 0; what <= 1; what++) {
            int w = what;
            for (int from = 0; from <= 35; from++) {
                int ahead = 100 * from;
                takes("way what " + w + " cells", (x, v) -> x.way(0, v, 999, w), ahead + 35);
                for (int to : new int[] {36, 99}) {
                    refuses("way what " + w + " cells", (x, v) -> x.way(0, v, 999, w), ahead + to, WRONG);
                }
            }
            for (int cells : new int[] {3600, 3635, -35, -99, -100, -3535}) {
                refuses("way what " + w + " cells", (x, v) -> x.way(0, v, 999, w), cells, WRONG);
            }
            range("way what " + w + " limit", 0, 999, WRONG, (x, v) -> x.way(0, 105, v, w));
        }
        range("way what", 0, 1, WRONG, (x, v) -> x.way(0, 105, 0, v));
    }

    private static void heaps() {
        for (int what = 0; what <= 2; what++) {
            int w = what;
            range("heap what " + w + " c", 0, 35, NO, (x, v) -> x.heap(v, 0, w));
            range("heap what " + w + " least", 0, 999, NO, (x, v) -> x.heap(0, v, w));
            range("room what " + w + " least", 0, 999, BAD, (x, v) -> x.room(v, w));
        }
        range("heap what", 0, 2, NO, (x, v) -> x.heap(0, 0, v));
        range("room what", 0, 2, BAD, (x, v) -> x.room(0, v));
    }

    // ---- what is best

    private static void best() {
        for (int what = 0; what <= 1; what++) {
            int w = what;
            range("turn what " + w + " n", 0, 40, BAD, (x, v) -> x.turn(v, w));
            range("seats what " + w + " p", 0, 2, NO_SUCH, (x, v) -> x.seats(v, 1, w));
            range("seats what " + w + " n", 0, 20, WRONG, (x, v) -> x.seats(0, v, w));
        }
        range("turn what", 0, 1, BAD, (x, v) -> x.turn(1, v));
        range("seats what", 0, 1, WRONG, (x, v) -> x.seats(0, 1, v));
    }

    // ---- told days

    private static void toldDays() {
        range("judge s", 0, 3, BAD, (x, v) -> x.judge(v, 0));
        range("judge c", 0, 35, NO_SUCH, (x, v) -> x.judge(0, v));
        range("laws s", 0, 3, BAD, (x, v) -> x.laws(v, 0));
        range("laws c", 0, 35, NO_SUCH, (x, v) -> x.laws(0, v));
        range("film s", 0, 3, BAD, (x, v) -> x.film(v, 0, 1));
        range("film c", 0, 35, NO_SUCH, (x, v) -> x.film(0, v, 1));
        range("film n", 0, 20, WRONG, (x, v) -> x.film(0, 0, v));
        for (int size = 20; size <= 21; size++) {
            int n = size;
            long due = n == 20 ? 0 : BAD;
            Call[] calls = {
                (x, v) -> x.judge(v, 35),
                (x, v) -> x.laws(v, 35),
                (x, v) -> x.kinds(v, 35, 0, 0),
                (x, v) -> x.kinds(v, 35, 0, 1),
                (x, v) -> x.holds(v, 35, 0, 0),
            };
            for (int i = 0; i < calls.length; i++) {
                UnderlayOfUnspoken x = prepared();
                x.sheet(0, 0, n);
                x.cell(0, 0, 1);
                DUE.same("told days, call " + i + ", of " + n, calls[i].on(x, 0), due);
            }
            UnderlayOfUnspoken x = prepared();
            x.sheet(0, 0, n);
            x.cell(0, 0, 1);
            DUE.same("where of " + n, x.where(0, 35, 0), n == 20 ? 0 : NO);
        }
    }

    private static void toldDaysOfOne() {
        for (int what = 0; what <= 1; what++) {
            int w = what;
            range("kinds sort " + w + " s", 0, 3, BAD, (x, v) -> x.kinds(v, 0, 0, w));
            range("kinds sort " + w + " c", 0, 35, NO_SUCH, (x, v) -> x.kinds(0, v, 0, w));
            range("kinds sort " + w + " p", 0, 2, NO_SUCH_PERSON, (x, v) -> x.kinds(0, 0, v, w));
            range("holds what " + w + " s", 0, 3, BAD, (x, v) -> x.holds(v, 0, 0, w));
            range("holds what " + w + " c", 0, 35, NO_SUCH, (x, v) -> x.holds(0, v, 0, w));
            range("holds what " + w + " p", 0, 2, NO_SUCH_PERSON, (x, v) -> x.holds(0, 0, v, w));
        }
        range("kinds sort", 0, 1, WRONG, (x, v) -> x.kinds(0, 0, 0, v));
        range("holds what", 0, 1, WRONG, (x, v) -> x.holds(0, 0, 0, v));
        range("where s", 0, 3, NO, (x, v) -> x.where(v, 0, 0));
        range("where c", 0, 35, NO, (x, v) -> x.where(0, v, 0));
        range("where p", 0, 2, NO, (x, v) -> x.where(0, 0, v));
    }

    // ---- callers by lots, shares

    private static void callers() {
        for (int what = 0; what <= 1; what++) {
            int w = what;
            range("drawn what " + w + " seed", 0, 99999, WRONG, (x, v) -> x.drawn(v, 0, 707, w));
            range("drawn what " + w + " p", 0, 2, NO_SUCH, (x, v) -> x.drawn(7, v, 707, w));
            range("drawn what " + w + " cellSteps", 0, 3599, WRONG, (x, v) -> x.drawn(7, 0, v, w));
            range("odds part " + w + " p", 0, 2, NO, (x, v) -> x.odds(707, v, 707, 1, w));
            range("odds part " + w + " cellSteps", 0, 3599, NO, (x, v) -> x.odds(707, 0, v, 1, w));
            range("odds part " + w + " least", 0, 99999, NO, (x, v) -> x.odds(707, 0, 707, v, w));
            range("odds part " + w + " seedSeeds", 1, 9999940, NO, (x, v) -> x.odds(v, 0, 707, 1, w));
            for (int seedSeeds : new int[] {1, 40, 101, 140, 9999901}) {
                takes("odds part " + w + " seedSeeds", (x, v) -> x.odds(v, 0, 707, 1, w), seedSeeds);
            }
            for (int seedSeeds : new int[] {0, 41, 99, 100, 141, 199, 9999900, 10000000, 10000001, 10000040, -1, -60, -99, -160}) {
                refuses("odds part " + w + " seedSeeds", (x, v) -> x.odds(v, 0, 707, 1, w), seedSeeds, NO);
            }
        }
        range("drawn what", 0, 1, WRONG, (x, v) -> x.drawn(7, 0, 707, v));
        range("odds part", 0, 1, NO, (x, v) -> x.odds(707, 0, 707, 1, v));
    }

    private static void shares() {
        for (int part = 0; part <= 1; part++) {
            int p = part;
            range("share part " + p + " row", 0, 5, NO, (x, v) -> x.share(v, p));
        }
        range("share part", 0, 1, NO, (x, v) -> x.share(0, v));
    }

    // ---- the host

    private static void sheets() {
        range("sheet s", 0, 3, BAD, (x, v) -> x.sheet(v, 0, 1));
        range("sheet sort", -1, 2, BAD, (x, v) -> x.sheet(0, v, 1));
        for (int sort = 0; sort <= 2; sort++) {
            int t = sort;
            Call call = (x, v) -> x.sheet(0, t, v);
            takes("sheet of sort " + t + " n", call, 0);
            takes("sheet of sort " + t + " n", call, 40);
            refuses("sheet of sort " + t + " n", call, 41, BAD);
            refuses("sheet of sort " + t + " n", call, HIGH, BAD);
            refuses("sheet of sort " + t + " n", call, -1, -14);
            refuses("sheet of sort " + t + " n", call, LOW, -14);
            range("cell i of sort " + t, 0, 1, OUTSIDE, (x, v) -> x.cell(t, v, 1));
            for (int v : new int[] {0, 1, -1, LOW, HIGH}) {
                takes("cell v of sort " + t, (x, w) -> x.cell(t, 0, w), v);
            }
        }
        range("cell s", 0, 3, BAD, (x, v) -> x.cell(v, 0, 1));
        range("cell i of forty", 0, 39, OUTSIDE, (x, v) -> {
            x.sheet(0, 2, 40);
            return x.cell(0, v, 1);
        });
        for (int v : new int[] {LOW, -1, 0, 41, HIGH}) {
            takes("a missing sheet's n", (x, n) -> x.sheet(0, -1, n), v);
        }
    }

    private static void copies() {
        Call from = (x, v) -> x.copy(v, 0, 2, 0, 1);
        Call to = (x, v) -> x.copy(2, 0, v, 0, 1);
        for (int s : new int[] {-1, 4, LOW, HIGH}) {
            refuses("copy s", from, s, BAD);
            refuses("copy other", to, s, BAD);
        }
        range("copy s and other", 0, 3, BAD, (x, v) -> x.copy(v, 0, v, 0, 1));
        range("copy i", 0, 1, OUTSIDE, (x, v) -> x.copy(2, v, 3, 0, 1));
        range("copy j", 0, 1, OUTSIDE, (x, v) -> x.copy(2, 0, 3, v, 1));
        range("copy n", 0, 2, OUTSIDE, (x, v) -> x.copy(2, 0, 3, 0, v));
        range("copy n from 1", 0, 1, OUTSIDE, (x, v) -> x.copy(2, 1, 3, 0, v));
        range("copy n to 1", 0, 1, OUTSIDE, (x, v) -> x.copy(2, 0, 3, 1, v));
        range("copy i of none", 0, 2, OUTSIDE, (x, v) -> x.copy(2, v, 3, 0, 0));
        range("copy j of none", 0, 2, OUTSIDE, (x, v) -> x.copy(2, 0, 3, v, 0));
        range("copy n on itself", 0, 2, OUTSIDE, (x, v) -> x.copy(2, 0, 2, 0, v));
    }

    private static void host() {
        range("peopleBy s", 0, 3, BAD, (x, v) -> x.peopleBy(v, Math.max(0, Math.min(2, v)), 0, 1));
        range("peopleBy sort", 0, 2, BAD, (x, v) -> x.peopleBy(Math.max(0, Math.min(2, v)), v, 0, 1));
        range("peopleBy n", 0, 6, BAD, (x, v) -> {
            x.sheet(2, 2, 12);
            return x.peopleBy(2, 2, 0, v);
        });
        range("peopleBy from of two", 0, 0, OUTSIDE, (x, v) -> x.peopleBy(2, 2, v, 1));
        range("peopleBy from of three", 0, 1, OUTSIDE, (x, v) -> {
            x.sheet(2, 2, 3);
            return x.peopleBy(2, 2, v, 1);
        });
        Call kind = (x, v) -> x.taken(v == 6 ? 41 : 0, v);
        range("taken kind", 0, 6, BAD, kind);
        range("taken i", 0, 41, OUTSIDE, (x, v) -> x.taken(v, v > 5 ? 6 : 0));
    }
}
