/** For each promise: ordinary inputs, the edges that the document names, refusals in their order. */
public final class PromiseTest {
    private static final long NO = -4611686018427387904L;
    private static final long ALL_CELLS = (1L << 36) - 1;
    private static final int LOW = Integer.MIN_VALUE, HIGH = Integer.MAX_VALUE;
    private static final Checks DUE = new Checks();

    public static void main(String[] args) {
        newObject();
        count();
        layAndUnder();
        feed();
        textsNumbers();
        textsFaults();
        textsWorth();
        force();
        asks();
        person();
        putAndTold();
        day();
        dayByKinds();
        dayInTurns();
        leaves();
        run();
        sinks();
        walk();
        tread();
        way();
        heap();
        room();
        turn();
        seats();
        judge();
        kinds();
        where();
        holds();
        laws();
        film();
        drawn();
        odds();
        share();
        imageAndBack();
        sheet();
        cell();
        copy();
        peopleBy();
        taken();
        DUE.end();
    }

    private static UnderlayOfUnspoken fresh() {
        return new UnderlayOfUnspoken();
    }

    private static void same(String call, long got, long due) {
        DUE.same(call, got, due);
    }

    // Promise 1
    private static void newObject() {
        UnderlayOfUnspoken x = fresh();
        same("new people", x.count(0), 0);
        same("new day", x.count(1), 0);
        same("new all", x.count(2), 0);
        same("new texts", x.count(3), 1);
        same("new law", x.count(4), 0);
        same("new tape", x.count(5), 0);
        for (int c = 0; c < 36; c++) {
            same("new under " + c, x.under(c), 0);
        }
        for (int s = 0; s < 4; s++) {
            same("new sheet " + s, x.cell(s, 0, 0), -11);
        }
        same("new image", x.back(), -3);
    }

    // Promise 2
    private static void count() {
        UnderlayOfUnspoken x = fresh();
        x.person(0, 0);
        x.person(0, 110);
        x.lay(3, 999);
        x.lay(35, 4);
        x.feed(3, 'a', 'b', 'c', 0, 0);
        same("count 0", x.count(0), 2);
        same("count 2", x.count(2), 1003);
        same("count 5", x.count(5), 3);
        x.day();
        same("count 1", x.count(1), 1);
        same("count 2", x.count(2), 1013);
        x.text();
        same("count 5", x.count(5), 0);
        same("text", Checks.text(x, "leaves 1;wears 2;feels 3;"), 1);
        same("count 3", x.count(3), 2);
        x.force(1);
        same("count 4", x.count(4), 1);
        x.lay(0, 100);
        same("count of cell 0, too", x.count(2), 999 + 4 + 100 + 10);
        same("count -1", x.count(-1), -2);
        same("count 6", x.count(6), -2);
    }

    // Promises 3, 4
    private static void layAndUnder() {
        UnderlayOfUnspoken x = fresh();
        same("lay", x.lay(0, 999), 0);
        same("lay", x.lay(0, 0), 999);
        same("lay", x.lay(35, 17), 0);
        same("under", x.under(35), 17);
        same("under", x.under(0), 0);
        same("lay 36", x.lay(36, 5), -5);
        same("lay -1", x.lay(-1, -1), -5);
        same("lay 36 1000", x.lay(36, 1000), -5);
        same("lay v", x.lay(35, 1000), -7);
        same("lay v", x.lay(35, -1), -7);
        same("under", x.under(35), 17);
        same("under -1", x.under(-1), -5);
        same("under 36", x.under(36), -5);
        same("under low", x.under(LOW), -5);
    }

    // Promise 5
    private static void feed() {
        UnderlayOfUnspoken x = fresh();
        same("feed", x.feed(1, 1, 2, 3, 4, 5), 1);
        same("feed", x.feed(2, 1, 2, 3, 4, 5), 3);
        same("feed", x.feed(3, 1, 2, 3, 4, 5), 6);
        same("feed", x.feed(4, 255, 0, 255, 0, 0), 10);
        same("feed", x.feed(5, 1, 2, 3, 4, 5), 15);
        same("feed n", x.feed(0, 1, 2, 3, 4, 5), -2);
        same("feed n", x.feed(6, 1, 2, 3, 4, 5), -2);
        same("feed a", x.feed(5, -1, 2, 3, 4, 5), -2);
        same("feed b", x.feed(1, 1, 256, 3, 4, 5), -2);
        same("feed c", x.feed(1, 1, 2, -1, 4, 5), -2);
        same("feed d", x.feed(1, 1, 2, 3, 256, 5), -2);
        same("feed e", x.feed(1, 1, 2, 3, 4, -1), -2);
        same("count", x.count(5), 15);
        for (int n = 20; n <= 155; n += 5) {
            same("feed", x.feed(5, 32, 32, 32, 32, 32), n);
        }
        same("feed", x.feed(4, 32, 32, 32, 32, 32), 159);
        same("feed full", x.feed(2, 32, 32, 32, 32, 32), -4);
        same("feed bad ahead of full", x.feed(2, 32, 32, 32, 32, 256), -2);
        same("feed", x.count(5), 159);
        same("feed", x.feed(1, 32, 32, 32, 32, 32), 160);
        same("feed full", x.feed(1, 32, 32, 32, 32, 32), -4);
        // Each of the five stands where it was given, in order.
        UnderlayOfUnspoken y = fresh();
        for (String part : new String[] {"leave", "s", " 12;w", "ear", "s 1;", "fe", "els 2", ";"}) {
            Checks.feed(y, part);
        }
        same("text", y.text(), 1);
        y.person(0, 0);
        y.force(1);
        same("asks", y.asks(0, 0, 0), 12);
        same("asks", y.asks(2, 0, 0), 2);
    }

    // Promise 6
    private static void textsNumbers() {
        UnderlayOfUnspoken x = fresh();
        for (int t = 1; t < 6; t++) {
            same("text " + t, Checks.text(x, "leaves " + t + ";\nwears 1 ; feels 1; "), t);
            same("tape", x.count(5), 0);
        }
        same("texts", x.count(3), 6);
        Checks.feed(x, "nonsense");
        same("text full ahead of the fault", x.text(), -4);
        same("tape stays", x.count(5), 8);
        same("texts", x.count(3), 6);
    }

    private static void fault(String text, int place) {
        UnderlayOfUnspoken x = fresh();
        same("text \"" + text + "\"", Checks.text(x, text), -100 - place);
        same("tape behind \"" + text + "\"", x.count(5), 0);
        same("texts behind \"" + text + "\"", x.count(3), 1);
    }

    private static void faultOfLeaves(String e, int placeInE) {
        fault("leaves " + e, 7 + placeInE);
    }

    private static void sound(String text) {
        same("text \"" + text + "\"", Checks.text(fresh(), text), 1);
    }

    private static void soundLeaves(String e) {
        sound("leaves " + e + ";wears 1;feels 1;");
    }

    private static void textsFaults() {
        fault("", 0);
        fault("   ", 3);
        fault("wears 1;", 0);
        fault("leaves", 6);
        fault("leaves 1", 8);
        fault("leaves 1 \n ", 11);
        fault("leaves 1;", 9);
        fault("leaves 1; leaves 1;", 10);
        fault("leaves 1;wears 1;feels 1", 24);
        fault("leaves 1;wears 1;feels 1; ;", 26);
        fault("leaves 1;wears 1;feels 1;1", 25);
        fault("leaves 1;wears 1;feels 1;zz", 25);
        fault("Leaves 1;", 0);
        fault("leavess 1;", 0);
        fault("leave 1;", 0);
        fault("leaves1;wears1;feels1", 21);
        faultOfLeaves("thicker;", 0);
        faultOfLeaves("leaves;", 0);
        faultOfLeaves("wears;", 0);
        faultOfLeaves("1 2;", 2);
        faultOfLeaves("1a;", 1);
        faultOfLeaves("day2;", 3);
        faultOfLeaves("1 + ;", 4);
        faultOfLeaves("1 + +1;", 4);
        faultOfLeaves("+1;", 0);
        faultOfLeaves("1 * * 1;", 4);
        faultOfLeaves("12345;", 0);
        faultOfLeaves("1+00001;", 2);
        faultOfLeaves("1 < 2 < 3;", 6);
        faultOfLeaves("1 = 2 = 3;", 6);
        faultOfLeaves("1 < not 2;", 4);
        faultOfLeaves("1 + not 2;", 4);
        faultOfLeaves("- not 2;", 2);
        faultOfLeaves("not;", 3);
        faultOfLeaves("1 or;", 4);
        faultOfLeaves("or 1;", 0);
        faultOfLeaves("1 and and 1;", 6);
        faultOfLeaves("();", 1);
        faultOfLeaves("(1;", 2);
        faultOfLeaves("1);", 1);
        faultOfLeaves("(1 2);", 3);
        faultOfLeaves("1 # 2;", 2);
        faultOfLeaves("1\t;", 1);
        faultOfLeaves("1 not 1;", 2);
        faultOfLeaves("((((((1))))));", 5);
        faultOfLeaves("------1;", 5);
        faultOfLeaves("not not not not not not 1;", 20);
        faultOfLeaves("(not (-(not 1)));", 8);
        faultOfLeaves("(not (-(-1)));", 8);
        faultOfLeaves("(not (-(1))));", 12);
        faultOfLeaves("((((( -1 )))));", 6);
        faultOfLeaves("(((((not 1 )))));", 5);
        soundLeaves("(((((1)))))");
        soundLeaves("-----1");
        soundLeaves("not not not not not 1");
        soundLeaves("(not (-(1)))");
        soundLeaves("(((((1))))) + (((((1)))))");
        soundLeaves("-----1-----(1)");
        soundLeaves("not not not not not 1 and not not not not not 1");
        soundLeaves("not not (((1))) or (((((1)))))");
        soundLeaves("not - - - - 1 < - - - - 1");
        faultOfLeaves("not - - - - 1 < - - - - - 1;", 24);
        fault("a".repeat(160), 0);
        fault("7".repeat(160), 0);
        fault(" ".repeat(160), 160);
        fault("leaves " + "1+".repeat(76) + "1", 160);
        fault("leaves 1;" + " ".repeat(143) + "wears 12", 160);
        sound("leaves " + "1+".repeat(66) + "1;wears 1;feels 1;  ");
        soundLeaves("9999+0000");
        sound("\n leaves(1);wears 1;feels 1;\n\n");
        sound("leaves 1or 1and 1<1+1*1;wears not 1;feels not-1;");
    }

    private static void worth(String e, int due) {
        UnderlayOfUnspoken x = fresh();
        x.person(57, 712);
        x.lay(22, 60);
        x.lay(0, 0);
        x.day();
        same("text of " + e, Checks.text(x, "leaves " + e + ";wears " + e + ";feels " + e + ";"), 1);
        x.force(1);
        same("leaves " + e, x.asks(0, 0, 22), due);
        same("wears " + e, x.asks(1, 0, 22), Math.max(0, due));
        same("feels " + e, x.asks(2, 0, 22), Math.max(0, due));
    }

    private static void textsWorth() {
        worth("column", 4);
        worth("row", 3);
        worth("thick", 60);
        worth("day", 1);
        worth("held", 12);
        worth("more", 7);
        worth("9999", 99);
        worth("-9999", -99);
        worth("100", 99);
        worth("99", 99);
        worth("0 - 100", -99);
        worth("0098", 98);
        worth("2 + 3 * 4", 14);
        worth("(2 + 3) * 4", 20);
        worth("10 - 3 - 2", 5);
        worth("10 - (3 - 2)", 9);
        worth("- 2 * 3", -6);
        worth("2 * - 3", -6);
        worth("2--3", 5);
        worth("5 < 6", 1);
        worth("6 < 6", 0);
        worth("6 = 6", 1);
        worth("6 = 5", 0);
        worth("1 + 1 = 2", 1);
        worth("2 = 1 + 1", 1);
        worth("not 2", 0);
        worth("not 0", 1);
        worth("not not 7", 1);
        worth("not 1 = 2", 1);
        worth("3 or 0", 1);
        worth("0 or 0", 0);
        worth("0 or -5", 1);
        worth("3 and 5", 1);
        worth("3 and 0", 0);
        worth("1 or 0 and 0", 1);
        worth("(1 or 0) and 0", 0);
        worth("not 0 and 0", 0);
        worth("0 and 0 or 1", 1);
        worth("7 - (held < 20) * 3", 4);
        worth("9999*9999*21", 99);
        // In 32 bits this wraps to below 0.
        worth("9999*9999*22", -99);
        worth("9999*9999*43 < 0", 0);
        worth("9999*9999*22 < 0", 1);
        worth("0or 1and 1<2+3*(0or 0and 1<2+3*(4-(2)))", 1);
        worth("0or 1and 8<2+3*(0or 1and 1<2+3*(4-(2)))", 0);
        // The longest that can wait for its right side: five at each of six levels.
        for (int last = 0; last < 3; last++) {
            UnderlayOfUnspoken x = fresh();
            x.person(0, 0);
            same("deep", Checks.text(x, "leaves " + "0or 1and 2=1+1*(".repeat(5) + "0or 1and 2=1+1*" + last
                + "))))); wears 1; feels 1;"), 1);
            x.force(1);
            same("deep " + last, x.asks(0, 0, 0), last == 1 ? 1 : 0);
        }
    }

    // Promise 7
    private static void force() {
        UnderlayOfUnspoken x = fresh();
        same("force", x.force(0), 0);
        same("force 1", x.force(1), -2);
        same("force -1", x.force(-1), -2);
        Checks.text(x, "leaves 1;wears 2;feels 3;");
        Checks.text(x, "leaves 4;wears 5;feels 6;");
        same("force", x.force(2), 0);
        same("force", x.force(1), 2);
        same("force 3", x.force(3), -2);
        same("force", x.force(0), 1);
        same("law", x.count(4), 0);
    }

    // Promise 8
    private static void asks() {
        UnderlayOfUnspoken x = fresh();
        x.person(13, 799);
        x.lay(8, 500);
        same("asks", x.asks(0, 0, 7), 99);
        same("asks", x.asks(1, 0, 7), 1);
        same("asks", x.asks(2, 0, 8), 99);
        same("asks", x.asks(2, 0, 7), 0);
        same("asks part", x.asks(3, 0, 7), -1000);
        same("asks part", x.asks(-1, 0, 7), -1000);
        same("asks p", x.asks(0, 1, 7), -1000);
        same("asks p", x.asks(0, -1, 7), -1000);
        same("asks c", x.asks(0, 0, 36), -1000);
        same("asks c", x.asks(0, 0, -1), -1000);
        // Of leaves, too, the cell of the call, not where one sits.
        Checks.text(x, "leaves thick+column;wears 0-1;feels 100;");
        x.force(1);
        same("asks", x.asks(0, 0, 8), 99);
        same("asks", x.asks(0, 0, 10), 4);
        same("asks", x.asks(1, 0, 10), 0);
        same("asks", x.asks(2, 0, 10), 99);
    }

    // Promise 9
    private static void person() {
        UnderlayOfUnspoken x = fresh();
        same("person", x.person(60, 0), -2);
        same("person", x.person(-1, 0), -2);
        same("person", x.person(0, 3600), -2);
        same("person", x.person(0, -1), -2);
        same("person", x.person(59, 3599), 0);
        same("told", x.told(0, 0), 35);
        same("told", x.told(0, 1), 99);
        same("told", x.told(0, 2), 5);
        same("told", x.told(0, 3), 9);
        for (int p = 1; p < 6; p++) {
            same("person", x.person(0, 0), p);
        }
        same("person full", x.person(0, 0), -4);
        same("person bad ahead of full", x.person(60, 0), -2);
        same("people", x.count(0), 6);
    }

    // Promises 10, 11
    private static void putAndTold() {
        UnderlayOfUnspoken x = fresh();
        same("put none", x.put(0, 0, 0), -5);
        same("told none", x.told(0, 0), -5);
        x.person(34, 1256);
        same("put", x.put(0, 0, 35), 12);
        same("put", x.put(0, 0, 0), 35);
        same("put", x.put(0, 1, 99), 56);
        same("put", x.put(0, 1, 0), 99);
        same("put v", x.put(0, 0, 36), -7);
        same("put v", x.put(0, 0, -1), -7);
        same("put v", x.put(0, 1, 100), -7);
        same("put v", x.put(0, 1, -1), -7);
        same("put what", x.put(0, 2, 0), -7);
        same("put what", x.put(0, -1, 0), -7);
        same("put p", x.put(1, 2, 100), -5);
        same("put p", x.put(-1, 0, 0), -5);
        same("told", x.told(0, 0), 0);
        same("told", x.told(0, 1), 0);
        same("told", x.told(0, 2), 3);
        same("told", x.told(0, 3), 4);
        same("told what", x.told(0, 4), -7);
        same("told what", x.told(0, -1), -7);
        same("told p", x.told(1, 4), -5);
        same("told p", x.told(-1, 0), -5);
    }

    // Promise 12
    private static void day() {
        UnderlayOfUnspoken x = fresh();
        x.person(0, 750);
        same("day", x.day(), 50);
        same("day", x.day(), 100);
        same("under", x.under(7), 100);
        same("under", x.under(8), 0);
        for (int d = 2; d < 512 - 20; d++) {
            x.day();
        }
        same("bound", x.under(7), 999);
        // 999 days take more than 512 calls, so the last day is not reached on one object.
        same("days", x.count(1), 492);
    }

    private static void dayByKinds() {
        // An aunt in a corner: half beside, cut toward 0 below 0, too.
        UnderlayOfUnspoken x = fresh();
        x.person(13, 7);
        same("aunt", x.day(), 7 + 3 + 3);
        same("aunt beside", x.under(1), 3);
        same("aunt below", x.under(6), 3);
        same("aunt apart", x.under(7), 0);
        Checks.text(x, "leaves -7;wears 1;feels 1;");
        x.force(1);
        same("aunt takes", x.day(), 0);
        x.lay(0, 9);
        x.lay(1, 9);
        x.lay(6, 2);
        same("aunt takes", x.day(), 2 + 6);
        same("aunt takes beside", x.under(1), 6);

        UnderlayOfUnspoken child = fresh();
        child.person(29, 750);
        child.person(20, 2200);
        same("child", child.day(), 1);
        same("child", child.under(7), 1);
        child.put(1, 1, 1);
        same("child, of the least", child.leaves(1, 22, 0), 1);

        UnderlayOfUnspoken widow = fresh();
        widow.person(34, 3505);
        same("widow", widow.day(), 5 + 8 + 2 + 2);
        same("widow", widow.under(35), 13);

        UnderlayOfUnspoken talker = fresh();
        talker.lay(14, 20);
        talker.lay(15, 20);
        talker.person(46, 1499);
        same("talker", talker.day(), 34);
        same("talker", talker.under(14), 14);

        UnderlayOfUnspoken caller = fresh();
        caller.person(59, 1499);
        same("caller", caller.day(), 0);
    }

    private static void dayInTurns() {
        // The second sits where the first has just left something; the law looks at it.
        UnderlayOfUnspoken x = fresh();
        Checks.text(x, "leaves thick + held + day;wears 1;feels 1;");
        x.force(1);
        x.person(0, 710);
        x.person(10, 805);
        x.person(0, 701);
        x.lay(8, 3);
        // 10 on 7; the aunt leaves 8 on 8, 4 on 7 and three more; the last sees 14 and leaves 15.
        same("turns", x.day(), 3 + 10 + 8 + 16 + 15);
        same("turns", x.under(7), 29);
        same("turns", x.under(8), 11);
        same("turns", x.under(9), 4);
    }

    // Promise 13
    private static void leaves() {
        UnderlayOfUnspoken x = fresh();
        same("leaves none", x.leaves(0, 36, 2), -1005);
        x.person(13, 721);
        x.person(42, 3510);
        same("leaves", x.leaves(0, 7, 0), 21);
        same("leaves", x.leaves(0, 8, 0), 10);
        same("leaves", x.leaves(0, 1, 0), 10);
        same("leaves", x.leaves(0, 9, 0), 0);
        same("leaves", x.leaves(0, 14, 0), 0);
        same("leaves", x.leaves(0, 35, 1), 61);
        same("leaves", x.leaves(1, 35, 0), -2);
        same("leaves", x.leaves(1, 0, 1), -2);
        same("leaves p", x.leaves(2, 0, 0), -1005);
        same("leaves p", x.leaves(-1, 36, 0), -1005);
        same("leaves c", x.leaves(0, 36, 1), -1007);
        same("leaves c", x.leaves(0, -1, 0), -1007);
        same("leaves what", x.leaves(0, 0, 2), -1007);
        same("leaves what", x.leaves(0, 0, -1), -1007);
        // 5 and 6 are neighbours by number, but in other rows.
        x.put(0, 0, 0);
        same("leaves from the first cell", x.leaves(0, 0, 1), 41);
        x.put(0, 0, 5);
        same("leaves", x.leaves(0, 6, 0), 0);
        same("leaves", x.leaves(0, 0, 1), 41);
        // The law is asked of where one sits, also for a cell beside.
        Checks.text(x, "leaves column*10;wears 1;feels 1;");
        x.force(1);
        same("leaves", x.leaves(0, 4, 0), 25);
    }

    // Promise 14
    private static void run() {
        UnderlayOfUnspoken x = fresh();
        x.person(0, 710);
        x.lay(7, 5);
        same("run", x.run(0, 7), 5);
        same("run", x.run(1, 7), 15);
        same("run", x.run(40, 7), 405);
        same("run", x.run(40, 36), 405);
        same("run", x.run(40, 35), 0);
        same("run changes nothing", x.under(7), 5);
        same("run changes nothing", x.count(1), 0);
        same("run n", x.run(41, 7), -2);
        same("run n", x.run(-1, 7), -2);
        same("run what", x.run(1, 37), -2);
        same("run what", x.run(1, -1), -2);
        Checks.text(x, "leaves day;wears 1;feels 1;");
        x.force(1);
        same("run by day", x.run(4, 7), 5 + 0 + 1 + 2 + 3);
        x.lay(0, 2);
        same("run of cell 0", x.run(4, 0), 2);
        same("run of all", x.run(4, 36), 5 + 6 + 2);
    }

    // Promise 15
    private static void sinks() {
        UnderlayOfUnspoken x = fresh();
        x.person(0, 710);
        x.lay(7, 5);
        same("sinks", x.sinks(7, 5), 0);
        same("sinks", x.sinks(7, 6), 1);
        same("sinks", x.sinks(7, 15), 1);
        same("sinks", x.sinks(7, 16), 2);
        same("sinks", x.sinks(7, 405), 40);
        same("sinks", x.sinks(7, 406), -1);
        same("sinks", x.sinks(0, 0), 0);
        same("sinks", x.sinks(0, 1), -1);
        same("sinks c", x.sinks(36, 1000), -5);
        same("sinks c", x.sinks(-1, 0), -5);
        same("sinks need", x.sinks(0, 1000), -7);
        same("sinks need", x.sinks(0, -1), -7);
        same("sinks changes nothing", x.under(7), 5);
    }

    // Promise 16
    private static void walk() {
        UnderlayOfUnspoken x = fresh();
        same("walk s", x.walk(-1, 0, 0), -2);
        same("walk s", x.walk(4, 0, 0), -2);
        same("walk missing", x.walk(0, 0, 0), -11);
        Checks.fill(x, 0, 0, 0, 1, 7, 8, 7);
        same("walk p", x.walk(0, 0, 4), -5);
        x.person(0, 0);
        x.lay(1, 30);
        x.lay(8, 30);
        x.lay(7, 10);
        same("walk", x.walk(0, 0, 0), 80);
        same("walk", x.walk(0, 0, 1), 30);
        same("walk", x.walk(0, 0, 2), 1);
        same("walk", x.walk(0, 0, 3), 1);
        same("walk what", x.walk(0, 0, 4), -7);
        same("walk what", x.walk(0, 0, -1), -7);
        same("walk p", x.walk(0, 1, 4), -5);
        same("walk wears nothing", x.count(2), 70);
        Checks.fill(x, 1, 1, 0, 2);
        same("walk leaps", x.walk(1, 5, 9), -2);
        Checks.fill(x, 1, 1, 3, 3);
        same("walk stands", x.walk(1, 0, 0), -2);
        Checks.fill(x, 1, 1, 5, 6);
        same("walk leaps a row", x.walk(1, 0, 0), -2);
        Checks.fill(x, 1, 1, 36);
        same("walk outside", x.walk(1, 0, 0), -2);
        Checks.fill(x, 1, 1, -1);
        same("walk outside", x.walk(1, 0, 0), -2);
        Checks.fill(x, 1, 2, 35);
        same("walk of one", x.walk(1, 0, 2), 0);
        same("walk of one", x.walk(1, 0, 3), 1);
        x.sheet(2, 1, 0);
        same("walk of none", x.walk(2, 0, 0), 0);
        same("walk of none", x.walk(2, 0, 1), 0);
        same("walk of none", x.walk(2, 0, 2), -1);
        same("walk of none", x.walk(2, 0, 3), 0);
        same("walk of none p", x.walk(2, 1, 0), -5);
        feltByKinds();
    }

    private static void feltByKinds() {
        int[] due = {30, 34, 60, 34, 15, 30};
        int[] thin = {9, 13, 18, 13, 4, 0};
        for (int kind = 0; kind < 6; kind++) {
            UnderlayOfUnspoken x = fresh();
            x.person(10 * kind + 4, 0);
            x.lay(3, 30);
            x.lay(4, 9);
            Checks.fill(x, 0, 2, 3);
            Checks.fill(x, 1, 2, 4);
            same("felt by kind " + kind, x.walk(0, 0, 0), due[kind]);
            same("felt by kind " + kind, x.walk(1, 0, 0), thin[kind]);
            x.lay(4, 10);
            same("felt by kind " + kind, x.walk(1, 0, 0), new int[] {10, 14, 20, 14, 5, 10}[kind]);
        }
    }

    // Promise 17
    private static void tread() {
        UnderlayOfUnspoken x = fresh();
        same("tread s", x.tread(4, 0), -2);
        same("tread missing", x.tread(0, 0), -11);
        Checks.fill(x, 0, 0, 1, 3);
        same("tread no walk", x.tread(0, 0), -2);
        Checks.fill(x, 0, 0, 7, 8, 7, 8, 7);
        same("tread p", x.tread(0, 0), -5);
        x.person(0, 0);
        x.lay(7, 2);
        x.lay(8, 50);
        same("tread", x.tread(0, 0), 4);
        same("tread", x.under(7), 0);
        same("tread", x.under(8), 48);
        x.sheet(1, 0, 0);
        same("tread of none", x.tread(1, 0), 0);
        x.lay(0, 9);
        x.lay(7, 9);
        same("tread of its cells alone", x.tread(0, 0), 5);
        same("tread of its cells alone", x.under(0), 9);
        wornByKinds();
        // A widow wears once the cell is no more than 50 thick, told step by step.
        UnderlayOfUnspoken w = fresh();
        Checks.text(w, "leaves 0;wears thick - 40;feels 0;");
        w.force(1);
        w.person(30, 0);
        w.person(0, 0);
        w.lay(0, 51);
        w.lay(1, 50);
        Checks.fill(w, 0, 0, 0, 1, 0, 1);
        same("widow", w.tread(0, 0), 10);
        same("widow", w.under(0), 51);
        same("widow", w.under(1), 40);
        same("person", w.tread(0, 1), 11);
        same("person", w.under(0), 40);
    }

    private static void wornByKinds() {
        int[] due = {5, 5, 2, 5, 2, 9};
        for (int kind = 0; kind < 6; kind++) {
            UnderlayOfUnspoken x = fresh();
            Checks.text(x, "leaves 0;wears 5;feels 0;");
            x.force(1);
            x.person(10 * kind + 4, 0);
            x.lay(3, 50);
            x.lay(4, 3);
            Checks.fill(x, 0, 2, 3);
            Checks.fill(x, 1, 2, 4);
            same("worn by kind " + kind, x.tread(0, 0), due[kind]);
            same("worn by kind " + kind, x.tread(1, 0), Math.min(3, due[kind]));
        }
    }

    // Promise 18
    private static void way() {
        UnderlayOfUnspoken x = fresh();
        same("way p", x.way(0, -1, -1, -1), -5);
        x.person(0, 0);
        for (int c = 0; c < 36; c++) {
            x.lay(c, 5);
        }
        // A wall in column 2 but for its last row: the way around it is longer, and less is felt.
        for (int row = 0; row < 5; row++) {
            x.lay(6 * row + 2, 90);
        }
        same("way", x.way(0, 4, 0, 0), 15 * 5);
        same("way", x.way(0, 4, 5, 1), 15);
        same("way", x.way(0, 4, 90, 1), 5);
        same("way", x.way(0, 4, 89, 1), 15);
        same("way", x.way(0, 4, 4, 1), -1);
        same("way to itself", x.way(0, 1414, 0, 0), 90);
        same("way to itself", x.way(0, 1414, 90, 1), 1);
        same("way to itself", x.way(0, 1414, 89, 1), -1);
        same("way", x.way(0, 1400, 999, 1), 5);
        same("way to the next", x.way(0, 1, 0, 0), 10);
        same("way to the next", x.way(0, 203, 5, 1), -1);
        same("way from the first cell", x.way(0, 0, 5, 1), 1);
        same("way to the first cell", x.way(0, 100, 0, 0), 10);
        same("way of the last cell", x.way(0, 3535, 0, 0), 5);
        same("way past it", x.way(0, 3536, 0, 0), -7);
        same("way p", x.way(1, 4, 0, 0), -5);
        same("way cells", x.way(0, 36, 0, 0), -7);
        same("way cells", x.way(0, 99, 0, 0), -7);
        same("way cells", x.way(0, 3600, 0, 0), -7);
        same("way cells", x.way(0, -1, 0, 0), -7);
        same("way cells", x.way(0, -100, 0, 0), -7);
        same("way limit", x.way(0, 4, 1000, 0), -7);
        same("way limit", x.way(0, 4, -1, 1), -7);
        same("way what", x.way(0, 4, 0, 2), -7);
        same("way what", x.way(0, 4, 0, -1), -7);
    }

    // Promise 19
    private static void heap() {
        UnderlayOfUnspoken x = fresh();
        x.lay(5, 10);
        x.lay(6, 10);
        x.lay(7, 20);
        x.lay(13, 30);
        x.lay(20, 40);
        same("heap", x.heap(6, 10, 0), 1L << 6 | 1L << 7 | 1L << 13);
        same("heap", x.heap(6, 10, 1), 3);
        same("heap", x.heap(6, 10, 2), 60);
        same("heap", x.heap(13, 20, 0), 1L << 7 | 1L << 13);
        same("heap", x.heap(5, 10, 0), 1L << 5);
        same("heap", x.heap(6, 11, 0), 0);
        same("heap", x.heap(6, 11, 1), 0);
        same("heap", x.heap(6, 11, 2), 0);
        same("heap", x.heap(35, 0, 0), ALL_CELLS);
        same("heap", x.heap(0, 0, 1), 36);
        same("heap", x.heap(0, 0, 2), 110);
        x.lay(0, 1);
        same("heap of cell 0, too", x.heap(0, 0, 2), 111);
        same("heap of cell 0, too", x.heap(0, 1, 0), 1L | 1L << 6 | 1L << 7 | 1L << 13);
        same("heap c", x.heap(36, 0, 0), NO);
        same("heap c", x.heap(-1, 0, 0), NO);
        same("heap least", x.heap(0, 1000, 0), NO);
        same("heap least", x.heap(0, -1, 0), NO);
        same("heap what", x.heap(0, 0, 3), NO);
        same("heap what", x.heap(0, 0, -1), NO);
        // A long winding heap hangs together from end to end.
        UnderlayOfUnspoken y = fresh();
        long due = 0;
        for (int row = 0; row < 6; row++) {
            for (int column = 0; column < 6; column++) {
                boolean turns = row % 4 == 1 ? column == 5 : column == 0;
                if (row % 2 == 0 || turns) {
                    y.lay(6 * row + column, 1);
                    due |= 1L << 6 * row + column;
                }
            }
        }
        same("heap winds", y.heap(0, 1, 0), due);
        same("heap winds", y.heap(35, 1, 0), due);
    }

    // Promise 20
    private static void room() {
        UnderlayOfUnspoken x = fresh();
        same("room", x.room(0, 0), 0);
        same("room", x.room(0, 1), 0);
        same("room", x.room(0, 2), 1);
        same("room", x.room(1, 2), 0);
        x.lay(0, 1);
        x.lay(9, 50);
        x.lay(20, 50);
        x.lay(1, 0);
        same("room", x.room(999, 0), 9);
        same("room", x.room(999, 1), 1);
        same("room", x.room(1, 2), 3);
        same("room", x.room(50, 2), 2);
        same("room", x.room(51, 2), 0);
        x.lay(14, 50);
        x.lay(15, 50);
        same("room", x.room(50, 2), 1);
        same("room", x.room(1000, 0), -2);
        same("room", x.room(-1, 0), -2);
        same("room", x.room(0, 3), -2);
        same("room", x.room(0, -1), -2);
        UnderlayOfUnspoken y = fresh();
        for (int c = 0; c < 36; c++) {
            y.lay(c, (c + c / 6) % 2);
        }
        same("room of single cells", y.room(1, 2), 18);
    }

    // Promise 21
    private static void turn() {
        UnderlayOfUnspoken x = fresh();
        x.lay(3, 8);
        same("turn", x.turn(3, 0), -1);
        same("turn", x.turn(3, 1), 8);
        x.person(0, 705);
        same("turn", x.turn(3, 0), 0);
        same("turn", x.turn(3, 1), 8);
        x.person(0, 820);
        x.person(0, 920);
        x.person(49, 300);
        same("turn", x.turn(0, 0), 0);
        same("turn", x.turn(0, 1), 8);
        same("turn", x.turn(2, 0), 1);
        same("turn", x.turn(2, 1), 10 + 40);
        x.lay(0, 4);
        same("turn, cell 0, too", x.turn(2, 1), 10 + 40 + 4);
        same("turn n", x.turn(41, 0), -2);
        same("turn n", x.turn(-1, 0), -2);
        same("turn what", x.turn(0, 2), -2);
        same("turn what", x.turn(0, -1), -2);
        same("turn changes nothing", x.count(0), 4);
        same("turn changes nothing", x.told(1, 1), 20);
    }

    // Promise 22
    private static void seats() {
        UnderlayOfUnspoken x = fresh();
        same("seats p", x.seats(0, 21, 2), -5);
        x.person(0, 710);
        x.person(0, 110);
        x.lay(0, 15);
        x.lay(2, 1);
        // Not on 0 (15 + 20), not on 1 (with the other); on 2 it would be 21, on 3 it is 20.
        same("seats", x.seats(0, 2, 0), 3);
        same("seats", x.seats(0, 2, 1), 20);
        same("seats", x.seats(0, 1, 0), 2);
        same("seats", x.seats(0, 1, 1), 15);
        same("seats", x.seats(0, 0, 0), 0);
        same("seats", x.seats(0, 0, 1), 15);
        same("seats", x.seats(0, 20, 1), 200);
        same("seats n", x.seats(0, 21, 0), -7);
        same("seats n", x.seats(0, -1, 0), -7);
        same("seats what", x.seats(0, 0, 2), -7);
        same("seats what", x.seats(0, 0, -1), -7);
        same("seats p", x.seats(2, 0, 0), -5);
        same("seats changes nothing", x.told(0, 0), 7);
    }

    // Promise 23
    private static void judge() {
        UnderlayOfUnspoken x = fresh();
        same("judge s", x.judge(4, 36), -2);
        same("judge s", x.judge(-1, 0), -2);
        same("judge missing", x.judge(0, 36), -11);
        x.sheet(0, 0, 21);
        same("judge long", x.judge(0, 36), -2);
        x.sheet(0, 0, 20);
        same("judge c", x.judge(0, 36), -5);
        same("judge c", x.judge(0, -1), -5);
        same("judge", x.judge(0, 0), -1);
        x.person(0, 710);
        same("judge", x.judge(0, 7), 0);
        same("judge", x.judge(0, 8), -1);
        Checks.fill(x, 1, 2, 10, 20, 31, 40);
        same("judge", x.judge(1, 7), 2);
        x.cell(1, 2, 30);
        same("judge", x.judge(1, 7), -1);
        x.sheet(1, 2, 0);
        same("judge none", x.judge(1, 7), -1);
        same("judge changes nothing", x.count(1), 0);
    }

    // Promise 24
    private static void kinds() {
        UnderlayOfUnspoken x = fresh();
        same("kinds s", x.kinds(4, 36, 9, 9), -2);
        same("kinds missing", x.kinds(0, 36, 9, 9), -11);
        x.sheet(0, 1, 21);
        same("kinds long", x.kinds(0, 36, 9, 9), -2);
        Checks.fill(x, 0, 1, 12, 24);
        same("kinds c", x.kinds(0, 36, 9, 9), -5);
        same("kinds p", x.kinds(0, 7, 0, 9), -6);
        same("kinds p", x.kinds(0, 7, -1, 9), -6);
        x.person(3, 712);
        same("kinds sort", x.kinds(0, 7, 0, 2), -7);
        same("kinds sort", x.kinds(0, 7, 0, -1), -7);
        same("kinds", x.kinds(0, 7, 0, 0), 1 << 0 | 1 << 1);
        same("kinds", x.kinds(0, 7, 0, 1), 1023);
        Checks.fill(x, 0, 1, 18, 36);
        same("kinds", x.kinds(0, 7, 0, 0), 1 << 3);
        same("kinds", x.kinds(0, 7, 0, 1), 0);
        Checks.fill(x, 0, 1, 0);
        same("kinds", x.kinds(0, 7, 0, 0), 1 << 4 | 1 << 5);
        x.sheet(0, 1, 0);
        same("kinds", x.kinds(0, 7, 0, 0), 63);
        UnderlayOfUnspoken y = fresh();
        y.person(35, 712);
        Checks.fill(y, 0, 1, 26, 52);
        same("kinds", y.kinds(0, 7, 0, 1), 1 << 7);
        same("kinds changes nothing", y.told(0, 3), 5);
        same("kinds changes nothing", y.told(0, 2), 3);
    }

    // Promise 25
    private static void where() {
        UnderlayOfUnspoken x = fresh();
        same("where s", x.where(4, 0, 0), NO);
        same("where missing", x.where(0, 0, 0), NO);
        x.person(10, 711);
        x.sheet(0, 1, 21);
        same("where long", x.where(0, 0, 0), NO);
        Checks.fill(x, 0, 1, 5, 10);
        same("where c", x.where(0, 36, 0), NO);
        same("where p", x.where(0, 0, 1), NO);
        same("where p", x.where(0, 0, -1), NO);
        same("where", x.where(0, 8, 0), 1L << 2 | 1L << 7 | 1L << 9 | 1L << 14);
        same("where", x.where(0, 0, 0), 1L << 1 | 1L << 6);
        same("where", x.where(0, 35, 0), 1L << 29 | 1L << 34);
        Checks.fill(x, 0, 1, 11, 22);
        same("where", x.where(0, 35, 0), 1L << 35);
        x.sheet(0, 1, 0);
        same("where", x.where(0, 35, 0), ALL_CELLS);
        same("where changes nothing", x.told(0, 0), 7);
    }

    // Promise 26
    private static void holds() {
        UnderlayOfUnspoken x = fresh();
        same("holds s", x.holds(4, 36, 9, 9), -2);
        same("holds missing", x.holds(0, 36, 9, 9), -11);
        x.sheet(0, 1, 21);
        same("holds long", x.holds(0, 36, 9, 9), -2);
        Checks.fill(x, 0, 1, 5, 10);
        same("holds c", x.holds(0, 36, 9, 9), -5);
        same("holds p", x.holds(0, 8, 9, 9), -6);
        x.person(10, 733);
        same("holds what", x.holds(0, 8, 0, 2), -7);
        same("holds what", x.holds(0, 8, 0, -1), -7);
        same("holds", x.holds(0, 8, 0, 0), 2);
        same("holds", x.holds(0, 8, 0, 1), 10);
        Checks.fill(x, 0, 1, 99);
        same("holds", x.holds(0, 7, 0, 0), 1);
        same("holds", x.holds(0, 7, 0, 1), 99);
        Checks.fill(x, 0, 1, 100);
        same("holds", x.holds(0, 7, 0, 0), 0);
        same("holds", x.holds(0, 7, 0, 1), -1);
        x.sheet(0, 1, 0);
        same("holds", x.holds(0, 7, 0, 0), 100);
        same("holds", x.holds(0, 7, 0, 1), 0);
        same("holds changes nothing", x.told(0, 1), 33);
    }

    // Promise 27
    private static void laws() {
        UnderlayOfUnspoken x = fresh();
        same("laws s", x.laws(4, 36), -2);
        same("laws missing", x.laws(0, 36), -11);
        x.sheet(0, 1, 21);
        same("laws long", x.laws(0, 36), -2);
        Checks.fill(x, 0, 1, 7, 14);
        same("laws c", x.laws(0, 36), -5);
        x.person(0, 707);
        Checks.text(x, "leaves 7;wears 1;feels 1;");
        Checks.text(x, "leaves 7-day;wears 1;feels 1;");
        same("laws", x.laws(0, 7), 1 << 0 | 1 << 1);
        x.cell(0, 1, 13);
        same("laws", x.laws(0, 7), 1 << 2);
        x.force(2);
        same("laws", x.laws(0, 7), 1 << 2);
        x.cell(0, 0, 13);
        same("laws", x.laws(0, 7), 0);
        x.sheet(0, 1, 0);
        same("laws", x.laws(0, 7), 7);
        same("laws changes nothing", x.count(4), 2);
    }

    // Promise 28
    private static void film() {
        UnderlayOfUnspoken x = fresh();
        same("film s", x.film(4, 36, 21), -2);
        same("film s", x.film(-1, 0, 0), -2);
        same("film c", x.film(0, 36, 21), -5);
        same("film n", x.film(0, 0, 21), -7);
        same("film n", x.film(0, 0, -1), -7);
        same("refused", x.cell(0, 0, 0), -11);
        x.person(0, 710);
        x.sheet(0, 2, 30);
        same("film", x.film(0, 7, 20), 20);
        same("film judged", x.judge(0, 7), -1);
        same("film size", x.cell(0, 20, 1), -12);
        x.sheet(1, 1, 1);
        same("film of shorts", x.copy(0, 0, 1, 0, 1), 1);
        same("film changes no room", x.under(7), 0);
        same("film changes no day", x.count(1), 0);
        same("film of none", x.film(0, 7, 0), 0);
        same("film of none", x.cell(0, 0, 1), -12);
    }

    private static int goneBy(int seed, int from, int steps) {
        java.math.BigInteger prime = java.math.BigInteger.valueOf(2147483647L);
        java.math.BigInteger lot = java.math.BigInteger.valueOf(seed + 1L);
        int column = from % 6;
        int row = from / 6;
        for (int i = 0; i < steps; i++) {
            lot = lot.multiply(java.math.BigInteger.valueOf(48271)).mod(prime);
            int way = lot.intValue() % 4;
            column = Math.max(0, Math.min(5, column + (way == 0 ? 1 : way == 1 ? -1 : 0)));
            row = Math.max(0, Math.min(5, row + (way == 2 ? 1 : way == 3 ? -1 : 0)));
        }
        return 6 * row + column;
    }

    // Promise 29
    private static void drawn() {
        UnderlayOfUnspoken x = fresh();
        same("drawn p", x.drawn(-1, 0, -1, -1), -5);
        x.person(0, 0);
        x.lay(7, 20);
        x.lay(8, 20);
        same("drawn", x.drawn(0, 0, 700, 0), 0);
        same("drawn", x.drawn(0, 0, 700, 1), 7);
        same("drawn", x.drawn(0, 0, 701, 0), 20);
        for (int seed : new int[] {0, 1, 2, 3, 4, 99999}) {
            for (int steps : new int[] {1, 2, 3, 30, 99}) {
                same("drawn " + seed + " " + steps, x.drawn(seed, 0, 1400 + steps, 1), goneBy(seed, 14, steps));
                same("drawn " + seed + " " + steps, x.drawn(seed, 0, 3500 + steps, 1), goneBy(seed, 35, steps));
            }
        }
        same("drawn wears in thought only", x.count(2), 40);
        same("drawn from the first cell", x.drawn(0, 0, 0, 1), 0);
        same("drawn from the last cell", x.drawn(0, 0, 3599, 1), goneBy(0, 35, 99));
        same("drawn seed", x.drawn(-1, 0, 0, 0), -7);
        same("drawn seed", x.drawn(100000, 0, 0, 0), -7);
        same("drawn cellSteps", x.drawn(0, 0, 3600, 0), -7);
        same("drawn cellSteps", x.drawn(0, 0, -1, 0), -7);
        same("drawn what", x.drawn(0, 0, 0, 2), -7);
        same("drawn what", x.drawn(0, 0, 0, -1), -7);
        same("drawn p", x.drawn(0, 1, 3600, 0), -5);
        // Everything is worn away at once, so no cell is felt twice.
        UnderlayOfUnspoken y = fresh();
        Checks.text(y, "leaves 0;wears 99;feels thick;");
        y.force(1);
        y.person(0, 0);
        int cells = 0;
        long seen = 0;
        for (int c = 0; c < 36; c++) {
            y.lay(c, 1);
        }
        for (int i = 0; i < 30; i++) {
            seen |= 1L << goneBy(5, 14, i);
        }
        cells = Long.bitCount(seen);
        same("drawn wears", y.drawn(5, 0, 1430, 0), cells);
    }

    // Promise 30
    private static void odds() {
        UnderlayOfUnspoken x = fresh();
        same("odds p", x.odds(540, 0, 0, 0, 0), NO);
        x.person(0, 0);
        x.lay(14, 7);
        x.lay(15, 9);
        int[] felt = new int[140];
        for (int seed = 0; seed < 40; seed++) {
            felt[seed] = x.drawn(seed, 0, 1410, 0);
        }
        for (int least = 0; least < 60; least += 5) {
            int many = 0;
            for (int seed = 3; seed < 3 + 36; seed++) {
                many += felt[seed] >= least ? 1 : 0;
            }
            int gcd = java.math.BigInteger.valueOf(many).gcd(java.math.BigInteger.valueOf(36)).intValue();
            same("odds above " + least, x.odds(336, 0, 1410, least, 0), many / gcd);
            same("odds below " + least, x.odds(336, 0, 1410, least, 1), 36 / gcd);
        }
        same("odds never", x.odds(140, 0, 1410, 99999, 0), 0);
        same("odds never", x.odds(140, 0, 1410, 99999, 1), 1);
        same("odds always", x.odds(140, 0, 1410, 0, 0), 1);
        same("odds always", x.odds(140, 0, 1410, 0, 1), 1);
        same("odds of one from the first cell", x.odds(1, 0, 0, 1, 1), 1);
        same("odds from the last cell", x.odds(1, 0, 3599, 0, 0), 1);
        same("odds last seed", x.odds(9999940, 0, 1410, 0, 1), 1);
        same("odds seeds", x.odds(500, 0, 1410, 0, 0), NO);
        same("odds seeds", x.odds(541, 0, 1410, 0, 0), NO);
        same("odds seed", x.odds(10000001, 0, 1410, 0, 0), NO);
        same("odds seed", x.odds(-1, 0, 1410, 0, 0), NO);
        same("odds seed", x.odds(LOW, 0, 1410, 0, 0), NO);
        same("odds seed", x.odds(HIGH, 0, 1410, 0, 0), NO);
        same("odds cellSteps", x.odds(101, 0, 3600, 0, 0), NO);
        same("odds cellSteps", x.odds(101, 0, -1, 0, 0), NO);
        same("odds least", x.odds(101, 0, 0, 100000, 0), NO);
        same("odds least", x.odds(101, 0, 0, -1, 0), NO);
        same("odds part", x.odds(101, 0, 0, 0, 2), NO);
        same("odds part", x.odds(101, 0, 0, 0, -1), NO);
        same("odds p", x.odds(101, 1, 0, 0, 0), NO);
    }

    // Promise 31
    private static void share() {
        UnderlayOfUnspoken x = fresh();
        same("share of nothing", x.share(0, 0), NO);
        x.lay(0, 10);
        x.lay(5, 5);
        x.lay(6, 20);
        x.lay(35, 10);
        same("share", x.share(0, 0), 1);
        same("share", x.share(0, 1), 3);
        same("share", x.share(1, 0), 4);
        same("share", x.share(1, 1), 9);
        same("share", x.share(2, 0), 0);
        same("share", x.share(2, 1), 1);
        same("share", x.share(5, 0), 2);
        same("share", x.share(5, 1), 9);
        same("share row", x.share(6, 0), NO);
        same("share row", x.share(-1, 0), NO);
        same("share part", x.share(0, 2), NO);
        same("share part", x.share(0, -1), NO);
    }

    // Promises 32, 33
    private static void imageAndBack() {
        UnderlayOfUnspoken x = fresh();
        same("back", x.back(), -3);
        Checks.text(x, "leaves 1;wears 1;feels 1;");
        x.person(12, 710);
        x.lay(3, 33);
        x.day();
        same("image", x.image(), 1);
        x.person(20, 0);
        x.put(0, 0, 35);
        x.put(0, 1, 99);
        x.lay(3, 1);
        x.force(1);
        x.day();
        Checks.text(x, "leaves 2;wears 1;feels 1;");
        x.feed(2, 'a', 'b', 0, 0, 0);
        x.sheet(0, 0, 3);
        same("back", x.back(), 1);
        same("back people", x.count(0), 1);
        same("back day", x.count(1), 1);
        same("back law", x.count(4), 0);
        same("back keeps texts", x.count(3), 3);
        same("back keeps the tape", x.count(5), 2);
        same("back keeps sheets", x.cell(0, 2, 1), 1);
        same("back thick", x.under(3), 33);
        same("back thick", x.under(7), 10);
        same("back seat", x.told(0, 0), 7);
        same("back held", x.told(0, 1), 10);
        same("back kind", x.told(0, 2), 1);
        same("back more", x.told(0, 3), 2);
        same("back none", x.told(1, 0), -5);
        same("back numbers", x.person(45, 101), 1);
        same("back kind", x.told(1, 2), 4);
        same("back again", x.back(), 1);
        x.person(45, 101);
        same("image again", x.image(), 2);
        x.lay(3, 9);
        same("back again", x.back(), 2);
        same("back again", x.under(3), 33);
        same("back again", x.told(1, 1), 1);
    }

    // Promise 34
    private static void sheet() {
        UnderlayOfUnspoken x = fresh();
        same("sheet s", x.sheet(4, 3, 41), -2);
        same("sheet s", x.sheet(-1, 0, 1), -2);
        same("sheet sort", x.sheet(0, 3, -1), -2);
        same("sheet sort", x.sheet(0, -2, -1), -2);
        same("sheet n", x.sheet(0, 0, 41), -2);
        same("sheet n", x.sheet(0, 0, -1), -14);
        same("sheet n", x.sheet(0, 0, LOW), -14);
        same("sheet refused", x.cell(0, 0, 0), -11);
        same("sheet", x.sheet(3, 2, 40), 1);
        same("sheet", x.cell(3, 39, 5), 1);
        same("sheet", x.sheet(3, 2, 40), 1);
        x.person(0, 0);
        x.lay(0, 9);
        same("sheet is all 0", x.sheet(3, 2, 1), 1);
        same("sheet is all 0", x.walk(3, 0, 0), 9);
        same("sheet missing", x.sheet(3, -1, LOW), 1);
        same("sheet missing", x.cell(3, 0, 0), -11);
        same("sheet missing", x.sheet(3, -1, HIGH), 1);
        same("sheet of none", x.sheet(3, 1, 0), 1);
        same("sheet of none", x.cell(3, 0, 0), -12);
    }

    // Promise 35
    private static void cell() {
        UnderlayOfUnspoken x = fresh();
        same("cell s", x.cell(4, 0, 0), -2);
        same("cell s", x.cell(-1, 9, 0), -2);
        same("cell missing", x.cell(0, -1, 0), -11);
        x.sheet(0, 0, 2);
        same("cell place", x.cell(0, 2, 0), -12);
        same("cell place", x.cell(0, -1, 0), -12);
        x.person(0, 700);
        // Behind a day cell 0 is as thick as it was laid: judge() reads what the sheet holds.
        read(x, 0, 127, 127);
        read(x, 0, 256 + 35, 35);
        read(x, 0, -250, 6);
        read(x, 1, 65536 + 700, 700);
        read(x, 1, 999, 999);
        read(x, 2, 999, 999);
        x.lay(0, 200);
        Checks.fill(x, 0, 0, 200);
        same("bytes end at 127", x.judge(0, 0), 0);
        x.lay(0, 700);
        Checks.fill(x, 0, 2, 65536 + 700);
        same("ints are whole", x.judge(0, 0), 0);
    }

    private static void read(UnderlayOfUnspoken x, int sort, int v, int due) {
        x.sheet(0, sort, 1);
        same("cell", x.cell(0, 0, v), 1);
        x.lay(0, due);
        same("cell of sort " + sort + " holds " + v, x.judge(0, 0), -1);
    }

    // Promise 36
    private static void copy() {
        UnderlayOfUnspoken x = fresh();
        same("copy s", x.copy(4, 0, 0, 0, 1), -2);
        same("copy other", x.copy(0, 0, 4, 0, 1), -2);
        same("copy other", x.copy(0, 0, -1, 0, 1), -2);
        same("copy missing", x.copy(0, -1, 1, 0, 1), -11);
        Checks.fill(x, 0, 2, 0, 1, 2, 3, 4);
        same("copy missing", x.copy(0, 0, 1, 9, 1), -11);
        same("copy missing", x.copy(1, 0, 0, 9, 1), -11);
        x.sheet(1, 1, 5);
        same("copy unlike", x.copy(0, 9, 1, 9, 1), -13);
        x.sheet(1, 2, 3);
        same("copy i", x.copy(0, -1, 1, 0, 1), -12);
        same("copy j", x.copy(0, 0, 1, -1, 1), -12);
        same("copy n", x.copy(0, 0, 1, 0, -1), -12);
        same("copy n", x.copy(0, 0, 1, 0, LOW), -12);
        same("copy n", x.copy(0, 1, 1, 1, HIGH), -12);
        same("copy n", x.copy(0, 0, 1, 0, 4), -12);
        same("copy i", x.copy(0, 3, 1, 0, 3), -12);
        same("copy i", x.copy(0, HIGH, 1, 0, 1), -12);
        same("copy none", x.copy(0, 5, 1, 3, 0), 0);
        same("copy none", x.copy(0, 6, 1, 3, 0), -12);
        same("copy none", x.copy(0, 5, 1, 4, 0), -12);
        same("copy", x.copy(0, 1, 1, 0, 3), 3);
        x.person(0, 3500);
        for (int c = 0; c < 6; c++) {
            x.lay(c, 10 + c);
        }
        same("copied", x.walk(1, 0, 0), 11 + 12 + 13);
        same("copy onto itself", x.copy(0, 0, 0, 1, 4), 4);
        Checks.fill(x, 2, 2, 0, 0, 0, 0, 0);
        // 0 0 1 2 3 now: as they were ahead of the call.
        same("copied forward", x.copy(0, 1, 2, 0, 4), 4);
        x.sheet(3, 2, 4);
        same("copied forward", x.copy(2, 0, 3, 0, 4), 4);
        same("copied forward", x.walk(3, 0, 0), 10 + 11 + 12 + 13);
        same("copy back onto itself", x.copy(3, 1, 3, 0, 3), 3);
        x.cell(3, 3, 4);
        same("copied back", x.walk(3, 0, 0), 11 + 12 + 13 + 14);
    }

    // Promise 37
    private static void peopleBy() {
        UnderlayOfUnspoken x = fresh();
        same("peopleBy s", x.peopleBy(4, 3, 0, 7), -2);
        same("peopleBy sort", x.peopleBy(0, 3, 0, 0), -2);
        same("peopleBy sort", x.peopleBy(0, -1, 0, 0), -2);
        same("peopleBy n", x.peopleBy(0, 0, 0, 7), -2);
        same("peopleBy n", x.peopleBy(0, 0, 0, -1), -2);
        same("peopleBy missing", x.peopleBy(0, 1, 99, 1), -11);
        Checks.fill(x, 0, 1, 9, 11, 102, 23, 3599, 60, 0, 31, 3500);
        same("peopleBy unlike", x.peopleBy(0, 2, 99, 1), -13);
        same("peopleBy unlike", x.peopleBy(0, 0, 99, 0), -13);
        same("peopleBy", x.peopleBy(0, 1, 1, 0), 0);
        same("peopleBy place", x.peopleBy(0, 1, -1, 1), -12);
        same("peopleBy place", x.peopleBy(0, 1, -2, 2), -12);
        same("peopleBy place", x.peopleBy(0, 1, 9, 1), -12);
        same("peopleBy place", x.peopleBy(0, 1, 8, 1), -12);
        same("peopleBy place", x.peopleBy(0, 1, HIGH, 6), -12);
        same("peopleBy place", x.peopleBy(0, 1, LOW, 6), -12);
        same("none came", x.count(0), 0);
        same("peopleBy", x.peopleBy(0, 1, 1, 3), 2);
        same("came", x.count(0), 2);
        same("came", x.told(0, 2), 1);
        same("came", x.told(0, 3), 1);
        same("came", x.told(0, 0), 1);
        same("came", x.told(0, 1), 2);
        same("came", x.told(1, 0), 35);
        same("peopleBy, one left out", x.peopleBy(0, 1, 5, 2), 1);
        same("came", x.count(0), 3);
        same("peopleBy ends outside", x.peopleBy(0, 1, 3, 6), -12);
        same("what stood ahead came", x.count(0), 5);
        same("peopleBy has room for one", x.peopleBy(0, 1, 1, 2), 1);
        same("peopleBy has no room", x.peopleBy(0, 1, 1, 2), 0);
        same("peopleBy has no room", x.peopleBy(0, 1, 7, 2), -12);
        same("came", x.count(0), 6);
    }

    // Promise 38
    private static void taken() {
        UnderlayOfUnspoken x = fresh();
        same("taken kind", x.taken(42, 7), -2);
        same("taken kind", x.taken(42, -1), -2);
        same("taken place", x.taken(42, 0), -12);
        same("taken place", x.taken(-1, 6), -12);
        same("taken none", x.taken(0, 6), -11);
        same("taken none", x.taken(5, 0), -11);
        boolean[][] is = {
            {true, false, false, false, false, false},
            {true, true, false, false, false, false},
            {true, false, true, false, false, false},
            {true, true, false, true, false, false},
            {true, false, true, false, true, false},
            {true, false, false, false, false, true}};
        for (int kind = 0; kind < 6; kind++) {
            x.person(10 * kind, 0);
        }
        for (int p = 0; p < 6; p++) {
            for (int kind = 0; kind < 6; kind++) {
                same("taken " + p + " for " + kind, x.taken(p, kind), is[p][kind] ? p : -13);
            }
            same("taken for a cell", x.taken(p, 6), -13);
        }
        x.lay(0, 7);
        x.lay(35, 8);
        same("taken", x.taken(6, 6), 7);
        same("taken", x.taken(41, 6), 8);
        same("taken", x.taken(7, 6), 0);
        same("taken", x.taken(6, 0), -13);
        same("taken", x.taken(41, 5), -13);
    }
}
