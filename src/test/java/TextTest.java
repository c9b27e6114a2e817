import java.util.ArrayList;
import java.util.List;

/** Texts at their edges: each kind of token at each place of a text, FAULTs, what is open, bounds, 32 bits. */
public final class TextTest {
    private static final Checks DUE = new Checks();
    private static final String[] KEYS = {"leaves", "wears", "feels", "or", "and", "not"};
    private static final String[] NAMES = {"column", "row", "thick", "day", "held", "more"};
    private static final String[] SIGNS = {"(", ")", ";", "+", "-", "*", "<", "="};
    private static final String REST = ";wears 1;feels 1;";

    public static void main(String[] args) {
        tokensAtEachPlace();
        bytesThatBeginNone();
        blanks();
        wordsAsLongAsCanBe();
        numbersTooLong();
        endsTooEarly();
        nothingBehind();
        openTogether();
        openTillTheEnd();
        openInEachPart();
        sizes();
        sixTexts();
        oneBehindAnother();
        bounds();
        whatIsTrue();
        wraps();
        names();
        namesAtTheirMost();
        DUE.end();
    }

    private static int read(String text) {
        return Checks.text(new UnderlayOfUnspoken(), text);
    }

    private static void fault(String text, int place) {
        DUE.same("text \"" + text + "\"", read(text), -100 - place);
    }

    private static void sound(String text) {
        DUE.same("text \"" + text + "\"", read(text), 1);
    }

    // TEXT: leaves E ; wears E ; feels E ; E: AND { or AND } ... ONE: a NUMBER, a NAME, - ONE, ( E ).
    // FAULT: the place of the first byte of the first TOKEN that can't stand there (the text's size, if it ends too early)
    private static void tokensAtEachPlace() {
        String first = "leaves 1;", second = first + "wears 1;", third = second + "feels 1;";
        may("", "leaves");
        may(" \n ", "leaves");
        may(first, "wears");
        may(second, "feels");
        may(third, "");
        String worth = "1 ( - not " + String.join(" ", NAMES), withoutNot = "1 ( - " + String.join(" ", NAMES);
        for (String start : new String[] {"leaves", first + "wears", second + "feels"}) {
            for (String ahead : new String[] {"", "(", "not", "1 or", "1 and", "not not", "((", "1 < 1 or", "not 1 and",
                    "1 = 2 and (", "1 or 1 and", "- (", "1 * (", "1 + ("}) {
                may(start + " " + ahead, worth);
            }
            for (String ahead : new String[] {"-", "1 +", "1 -", "1 *", "1 <", "1 =", "- -", "1 + 1 *", "not 1 <", "( 1 -",
                    "1 - -", "1 < -"}) {
                may(start + " " + ahead, withoutNot);
            }
            for (String ahead : new String[] {"1", "day", "(1)", "- 1", "not 1", "1 + 1", "1 * 1", "1 or 1", "1 and 1",
                    "1 < 1 or 1", "(1 < 1)", "not (1 = 1)", "- (1 < 1)", "1 = 1 and not 1"}) {
                may(start + " " + ahead, "+ - * < = or and ;");
            }
            for (String ahead : new String[] {"1 < 1", "1 = 1", "not 1 < 1", "1 + 1 < 1", "1 = 1 * 1", "1 < (1 < 1)",
                    "1 or 1 = 1", "(1 < 1) < 1", "1 < - 1"}) {
                may(start + " " + ahead, "+ - * or and ;");
            }
            for (String ahead : new String[] {"(1", "1 + (day", "1 < (1", "((1)", "not (1", "(not 1", "- (1"}) {
                may(start + " " + ahead, "+ - * < = or and )");
            }
            for (String ahead : new String[] {"(1 < 1", "1 + (day = 1", "(not 1 < 1", "1 = (1 = 1"}) {
                may(start + " " + ahead, "+ - * or and )");
            }
        }
    }

    private static List<String> tokens() {
        List<String> all = new ArrayList<>(List.of("1", "0000", "10000", "x", "leave", "nots", "#"));
        all.addAll(List.of(KEYS));
        all.addAll(List.of(NAMES));
        all.addAll(List.of(SIGNS));
        return all;
    }

    /** Behind ahead exactly these tokens may stand: then the fault is the text's end; else it is the token. */
    private static void may(String ahead, String allowed) {
        List<String> may = List.of(allowed.split(" "));
        for (String token : tokens()) {
            String text = ahead + " " + token;
            boolean is = may.contains(token) || token.equals("0000") && may.contains("1");
            if (is && token.equals(";") && ahead.contains("feels")) {
                sound(text);
            } else {
                fault(text + "\n", is ? text.length() + 1 : ahead.length() + 1);
            }
        }
    }

    // FAULT: also of a byte that begins none
    private static void bytesThatBeginNone() {
        String begin = "abcdefghijklmnopqrstuvwxyz0123456789();+-*<= \n";
        for (int b = 0; b < 256; b++) {
            if (begin.indexOf(b) < 0) {
                String odd = String.valueOf((char) b);
                fault(odd, 0);
                fault(odd + "leaves 1" + REST, 0);
                fault("leaves " + odd + "1" + REST, 7);
                fault("leaves 1" + odd + REST, 8);
                fault("leaves 1;wears 1;feels 1;" + odd, 25);
                fault("leaves da" + odd + "y" + REST, 7);
                fault("leaves 1" + odd + "1" + REST, 8);
            }
        }
    }

    // blanks (32, 10) may stand between
    private static void blanks() {
        for (String blank : new String[] {"", " ", "\n", " \n \n"}) {
            sound(blank + "leaves" + blank + "(" + blank + "1" + blank + "+" + blank + "day" + blank + ")" + blank + "<"
                + blank + "2" + blank + ";" + blank + "wears" + blank + "1" + blank + ";" + blank + "feels" + blank + "1"
                + blank + ";" + blank);
        }
        fault("leaves 1\r;wears 1;feels 1;", 8);
        fault("leaves\t1;wears 1;feels 1;", 6);
        fault("le aves 1" + REST, 0);
        fault("leaves da y" + REST, 7);
        fault("leaves 1 2" + REST, 9);
    }

    // TOKENS, each as long as can be: WORDS (as many letters a .. z as stand there)
    private static void wordsAsLongAsCanBe() {
        fault("leavesday;", 0);
        fault("leaves notday;", 7);
        fault("leaves dayday;", 7);
        fault("leaves 1 orday;", 9);
        fault("leaves 1or2and3;", 16);
        fault("leaves not1 or not2;", 20);
        fault("leaves 1;wearsfeels 1;", 9);
        for (String word : new String[] {"a", "z", "colum", "columns", "ro", "rows", "thic", "thicks", "da", "days", "hel",
                "helds", "mor", "mores", "n", "no", "an", "ands", "o", "ors", "leave", "wear", "feel"}) {
            fault("leaves " + word + REST, 7);
            fault("leaves 1 " + word + REST, 9);
        }
        fault("leaves " + "day".repeat(51), 7);
        sound("leaves1" + REST.replace(" ", ""));
    }

    // NUMBERS (as many digits as stand there; more than 4 are too long); FAULT: of a NUMBER that is too long
    private static void numbersTooLong() {
        sound("leaves 0" + REST);
        sound("leaves 9999" + REST);
        sound("leaves 0000" + REST);
        fault("leaves 10000" + REST, 7);
        fault("leaves 00000" + REST, 7);
        fault("leaves 00001" + REST, 7);
        fault("leaves 1+99999", 9);
        fault("leaves 1 99999", 9);
        fault("99999", 0);
        fault("leaves " + "9".repeat(153), 7);
        sound("leaves 9999+9999" + REST);
    }

    // the text's size, if it ends too early
    private static void endsTooEarly() {
        String whole = "leaves (not 12 < - held) and 1 or day * 2 ; wears 1 ; feels thick ;";
        for (int size = 0; size < whole.length(); size++) {
            String text = whole.substring(0, size);
            String last = text.substring(Math.max(text.lastIndexOf(' '), text.lastIndexOf('(')) + 1).replace(")", "");
            boolean cut = last.matches("[a-z]+") && !List.of(KEYS).contains(last) && !List.of(NAMES).contains(last);
            fault(text, cut ? size - last.length() : size);
            if (!cut) {
                fault(text + "\n  \n", size + 4);
            }
        }
        sound(whole);
    }

    private static void nothingBehind() {
        for (String token : tokens()) {
            fault("leaves 1" + REST + token, 25);
            fault("leaves 1" + REST + "\n " + token + " ", 27);
        }
    }

    // a ( , a not, a - ahead of a ONE while 5 of these are open
    private static void openTogether() {
        List<String> rows = new ArrayList<>(List.of(""));
        for (int size = 1; size <= 5; size++) {
            List<String> longer = new ArrayList<>();
            for (String row : rows) {
                longer.add(row + "( ");
                longer.add(row + "- ");
                if (!row.endsWith("- ")) {
                    longer.add(row + "not ");
                }
            }
            rows = longer;
        }
        for (String row : rows) {
            String closed = ") ".repeat((int) row.chars().filter(c -> c == '(').count());
            sound("leaves " + row + "1" + closed + REST);
            int place = 7 + row.length();
            fault("leaves " + row + "(1" + closed + ")" + REST, place);
            fault("leaves " + row + "-1" + closed + REST, place);
            fault("leaves " + row + "not 1" + closed + REST, place);
            // What lies inside is closed again: the same five may be open once more.
            sound("leaves " + row + "1" + closed + "or " + row + "1" + closed + REST);
            // A - between two is ahead of no ONE.
            sound("leaves " + row + "1-1" + closed + REST);
        }
    }

    // (a ( till its ) , not and - till what they belong to ends)
    private static void openTillTheEnd() {
        String five = "(((((1)))))", four = "((((1))))";
        sound("leaves (1)+" + five + REST);
        sound("leaves (1)<" + five + REST);
        sound("leaves -1+" + five + REST);
        sound("leaves -1-" + five + REST);
        sound("leaves -1*" + five + REST);
        sound("leaves -1<" + five + REST);
        sound("leaves -(1)=" + five + REST);
        sound("leaves not 1 and " + five + REST);
        sound("leaves not 1 or " + five + REST);
        sound("leaves not 1<1 and " + five + REST);
        for (String between : new String[] {"+", "-", "*", "<", "=", "+2*", "*2<"}) {
            sound("leaves not 1" + between + four + REST);
            fault("leaves not 1" + between + five + REST, 16 + between.length());
            fault("leaves not not 1" + between + five + REST, 19 + between.length());
            fault("leaves (1" + between + five + ")" + REST, 13 + between.length());
        }
        fault("leaves (not 1 and " + five + ")" + REST, 22);
        sound("leaves (not 1 and " + four + ")" + REST);
        fault("leaves (-1*" + five + ")" + REST, 15);
        sound("leaves (-1*" + four + ")" + REST);
        fault("leaves not(1)<" + five + REST, 18);
        sound("leaves not(1)or" + five + REST);
        fault("leaves not-1*" + five + REST, 17);
        sound("leaves -----1<-----1" + REST);
        fault("leaves not-1=-----1" + REST, 17);
        sound("leaves not-1=----1" + REST);
    }

    private static void openInEachPart() {
        sound("leaves (((((1)))));wears -----1;feels not not not not not 1;");
        fault("leaves 1;wears ((((((1))))));feels 1;", 20);
        fault("leaves 1;wears 1;feels ------1;", 28);
    }

    // A TEXT is read from THE TAPE (160 bytes at most).
    private static void sizes() {
        sound("leaves 1" + REST + " ".repeat(160 - 25));
        sound(" ".repeat(160 - 25) + "leaves 1" + REST);
        sound("leaves " + "1+".repeat(67) + "11" + REST);
        fault("leaves " + "1+".repeat(68) + "11;wears 1;feels1", 160);
        fault("", 0);
        fault(" ".repeat(160), 160);
        fault("leaves" + " ".repeat(154), 160);
        fault("a".repeat(160), 0);
        fault("1".repeat(160), 0);
        // The last of 160 bytes is read, too.
        fault("leaves 1" + REST + " ".repeat(134) + "#", 159);
        // As many steps as a tape can tell are kept.
        UnderlayOfUnspoken x = new UnderlayOfUnspoken();
        x.person(0, 0);
        DUE.same("a long text", Checks.text(x, "leaves " + "1+".repeat(67) + "11" + REST), 1);
        x.force(1);
        DUE.same("a long text says", x.asks(0, 0, 0), 78);
    }

    // TEXTS are numbered from 0 on, 6 at most
    private static void sixTexts() {
        UnderlayOfUnspoken x = new UnderlayOfUnspoken();
        x.person(0, 77);
        for (int t = 1; t <= 5; t++) {
            DUE.same("a fault takes no number", Checks.text(x, "leaves " + t), -108);
            DUE.same("text " + t, Checks.text(x, "leaves " + t + ";wears 2*" + t + ";feels 3*" + t + ";"), t);
        }
        DUE.same("a seventh, of nothing", x.text(), -4);
        Checks.feed(x, "leaves 6;wears 6;feels 6;");
        DUE.same("a seventh", x.text(), -4);
        DUE.same("the tape stays", x.count(5), 25);
        DUE.same("six", x.count(3), 6);
        for (int t = 5; t >= 1; t--) {
            x.force(t);
            for (int part = 0; part < 3; part++) {
                DUE.same("text " + t + " part " + part, x.asks(part, 0, 0), t * (part + 1));
            }
        }
        x.force(0);
        x.lay(3, 98);
        DUE.same("TEXT 0 leaves", x.asks(0, 0, 3), 77);
        DUE.same("TEXT 0 wears", x.asks(1, 0, 3), 1);
        DUE.same("TEXT 0 feels", x.asks(2, 0, 3), 98);
        x.lay(3, 100);
        DUE.same("TEXT 0 feels 99 at most", x.asks(2, 0, 3), 99);
    }

    // THE TAPE, which is empty then (by a FAULT, too): nothing of a text is left to the next one.
    private static void oneBehindAnother() {
        UnderlayOfUnspoken x = new UnderlayOfUnspoken();
        x.person(0, 0);
        String many = "leaves " + "1+".repeat(67) + "11" + REST;
        for (int t = 1; t <= 5; t++) {
            DUE.same("a long fault ahead of " + t, Checks.text(x, many.replace("feels 1", "feels +")), -258);
            DUE.same("the tape is empty", x.count(5), 0);
            DUE.same("a short fault ahead of " + t, Checks.text(x, "leaves ((("), -110);
            DUE.same("the tape is empty", x.count(5), 0);
            DUE.same("a long text " + t, Checks.text(x, t % 2 == 0 ? many : "leaves 7+" + t + ";wears 1;feels 2;"), t);
            DUE.same("the tape is empty", x.count(5), 0);
        }
        for (int t = 1; t <= 5; t++) {
            x.force(t);
            DUE.same("text " + t + " leaves", x.asks(0, 0, 0), t % 2 == 0 ? 78 : 7 + t);
            DUE.same("text " + t + " wears", x.asks(1, 0, 0), 1);
            DUE.same("text " + t + " feels", x.asks(2, 0, 0), t % 2 == 0 ? 1 : 2);
        }
    }

    /** What all three parts say, as they come out of the bounds. */
    private static void says(String e, int leaves, int wearsAndFeels) {
        UnderlayOfUnspoken x = new UnderlayOfUnspoken();
        x.person(0, 0);
        DUE.same("text of " + e, Checks.text(x, "leaves " + e + ";"), -100 - 8 - e.length());
        DUE.same("text of " + e, Checks.text(x, "leaves " + e + ";wears 0;feels 0;"), 1);
        DUE.same("text of " + e, Checks.text(x, "leaves 0;wears " + e + ";feels 0;"), 2);
        DUE.same("text of " + e, Checks.text(x, "leaves 0;wears 0;feels " + e + ";"), 3);
        int[] due = {leaves, wearsAndFeels, wearsAndFeels};
        for (int part = 0; part < 3; part++) {
            for (int other = 0; other < 3; other++) {
                x.force(1 + other);
                DUE.same(e + " of part " + part, x.asks(part, 0, 0), part == other ? due[part] : 0);
            }
        }
    }

    // (leaves -99 .. 99, wears, feels 0 .. 99, else the bound)
    private static void bounds() {
        says("98", 98, 98);
        says("99", 99, 99);
        says("100", 99, 99);
        says("9999", 99, 99);
        says("1", 1, 1);
        says("0", 0, 0);
        says("-1", -1, 0);
        says("-98", -98, 0);
        says("-99", -99, 0);
        says("-100", -99, 0);
        says("-9999", -99, 0);
        // Only in the end: what lies between may be far outside.
        says("9999*9999-9999*9999+7", 7, 7);
        says("(0-500)+510", 10, 10);
        says("(day-1)*(day-1)", 1, 1);
    }

    // of or, and, not, <, = 1 or 0 (what is not 0 is true)
    private static void whatIsTrue() {
        for (String truth : new String[] {"1", "7", "-1", "9999", "-9999", "65536"}) {
            String t = truth.equals("65536") ? "(256*256)" : "(" + truth + ")";
            says("0 or " + t, 1, 1);
            says(t + " or 0", 1, 1);
            says(t + " or " + t, 1, 1);
            says(t + " and " + t, 1, 1);
            says(t + " and 0", 0, 0);
            says("0 and " + t, 0, 0);
            says("not " + t, 0, 0);
            says("not not " + t, 1, 1);
        }
        says("0 or 0", 0, 0);
        says("0 and 0", 0, 0);
        says("not 0", 1, 1);
        says("3 < 4", 1, 1);
        says("4 < 4", 0, 0);
        says("5 < 4", 0, 0);
        says("-1 < 0", 1, 1);
        says("0 < -1", 0, 0);
        says("4 = 4", 1, 1);
        says("4 = 5", 0, 0);
        says("4 = -4", 0, 0);
        says("2 and 1", 1, 1);
    }

    // An E is an int (32 bits, wrapping)
    private static void wraps() {
        String low = "(8192*8192*32)", high = "(8192*8192*32-1)";
        says(high, 99, 99);
        says(low, -99, 0);
        says(high + "+1", -99, 0);
        says(low + "-1", 99, 99);
        says("0-" + low, -99, 0);
        says("-" + low, -99, 0);
        says(low + "*2", 0, 0);
        says(low + "*3", -99, 0);
        says(high + "*2", -2, 0);
        says(high + "+" + high, -2, 0);
        says(low + "+" + low, 0, 0);
        says(high + "*" + high, 1, 1);
        says(low + "=-" + low, 1, 1);
        says(high + "+1=" + low, 1, 1);
        says(low + "<" + high, 1, 1);
        says(high + "<" + low, 0, 0);
        says(low + "<1", 1, 1);
        says("1<" + low, 0, 0);
        says("not " + low, 0, 0);
        says("8192*8192*64", 0, 0);
        says("not(8192*8192*64)", 1, 1);
        says("8192*8192*64+5", 5, 5);
    }

    // NAMES: column row thick day held more.
    private static void names() {
        UnderlayOfUnspoken x = new UnderlayOfUnspoken();
        int t = 0;
        for (String name : new String[] {"column", "row", "held", "more"}) {
            t++;
            DUE.same("text " + name, Checks.text(x, "leaves " + name + ";wears " + name + ";feels " + name + ";"), t);
        }
        x.person(0, 3500);
        x.person(9, 99);
        for (int part = 0; part < 3; part++) {
            for (int c : new int[] {0, 5, 6, 11, 30, 35}) {
                x.force(1);
                DUE.same("column of " + c, x.asks(part, 0, c), c % 6);
                x.force(2);
                DUE.same("row of " + c, x.asks(part, 0, c), c / 6);
            }
            for (int p = 0; p < 2; p++) {
                x.force(3);
                DUE.same("held of " + p, x.asks(part, p, 7), 99 * p);
                x.force(4);
                DUE.same("more of " + p, x.asks(part, p, 7), 9 * p);
            }
        }
    }

    private static void namesAtTheirMost() {
        UnderlayOfUnspoken x = new UnderlayOfUnspoken();
        DUE.same("text", Checks.text(x, "leaves thick-900;wears thick-900;feels day;"), 1);
        x.person(50, 0);
        x.force(1);
        x.lay(35, 999);
        DUE.same("thick 999", x.asks(0, 0, 35), 99);
        DUE.same("thick 999", x.asks(1, 0, 35), 99);
        x.lay(35, 998);
        DUE.same("thick 998", x.asks(0, 0, 35), 98);
        x.lay(35, 0);
        DUE.same("thick 0", x.asks(0, 0, 35), -99);
        DUE.same("day 0", x.asks(2, 0, 35), 0);
        for (int day = 1; day <= 101; day++) {
            x.day();
        }
        DUE.same("day 101", x.asks(2, 0, 35), 99);
        DUE.same("day 101", x.count(1), 101);
    }
}
