import java.util.function.Consumer;
import java.util.function.Supplier;

/** Each sentence of the document's promises that names a boundary case, with a test of its own. */
public final class ChartParserPromiseBoundaries extends Trial {
    private static final int[] NO_NONTERMINALS = {LOW, -11, -1, 0, 5, 8, 9, 15, 16, 20, HIGH};

    /** Three parts of a place or a nonterminal that land on a cell of the table if the parts are not looked at one by one. */
    private static final int[][] ALIASES = {r(9, 11, 0), r(11, -11, 0), r(10, 1, -11), r(10, 0, 11), r(12, -22, 0), r(14, 11, -121)};

    // ---- promise 1: a new object ----

    private static void noProductions() {
        ChartParser x = new ChartParser();
        due("retract()", x.retract(), false);
        due("action(0, 1, 0)", x.action(0, 1, 0), false);
        for (int n = 10; n <= 14; n++) {
            due("derives(" + n + ", 0, 0)", x.derives(n, 0, 0), false);
            due("trees(" + n + ", 0, 0)", x.trees(n, 0, 0), 0);
            due("height(" + n + ", 0, 0)", x.height(n, 0, 0), 0);
            due("longest(" + n + ", 0)", x.longest(n, 0), -1);
            due("value(" + n + ", 0, 0)", x.value(n, 0, 0), NONE);
            due("distance(" + n + ", 0, 0)", x.distance(n, 0, 0), -1);
            due("traits(" + n + ")", x.traits(n), 0);
        }
        due("errorAt()", x.errorAt(), -2);
        due("node(0)", x.node(0), -1);
        due("expected(0)", x.expected(0), 0);
        due("produce(10, 0, -1, -1)", x.produce(10, 0, -1, -1), 0);
    }

    private static void emptyText() {
        ChartParser x = new ChartParser();
        due("erase(0)", x.erase(0), false);
        due("set(0, 0)", x.set(0, 0), false);
        due("expected(1)", x.expected(1), -1);
        due("insert(1, 0)", x.insert(1, 0), false);
        x.produce(10, -1, -1, -1);
        due("errorAt()", x.errorAt(), -1);
        due("node(0)", x.node(0), 0);
        due("longest(10, 0)", x.longest(10, 0), 0);
        due("insert(0, 0)", x.insert(0, 0), true);
    }

    private static void ofItsOwn() {
        ChartParser x = parser(rules(r(10, 0)), 0);
        ChartParser y = new ChartParser();
        due("errorAt() of a new object", y.errorAt(), -2);
        due("erase(0) of a new object", y.erase(0), false);
        due("retract() of a new object", y.retract(), false);
        due("errorAt() of the old one", x.errorAt(), -1);
    }

    // ---- promise 2: produce ----

    private static void asFarAsThere() {
        ChartParser x = new ChartParser();
        due("produce(10, -1, -1, -1)", x.produce(10, -1, -1, -1), 0);
        due("produce(11, 0, -1, -1)", x.produce(11, 0, -1, -1), 1);
        due("produce(12, 11, 1, -1)", x.produce(12, 11, 1, -1), 2);
        due("produce(14, 5, 14, 14)", x.produce(14, 5, 14, 14), 3);
        due("produce(14, 10, -1, -1)", x.produce(14, 10, -1, -1), 4);
        write(x, 0, 1, 5);
        due("derives(10, 0, 0)", x.derives(10, 0, 0), true);
        due("derives(11, 0, 1)", x.derives(11, 0, 1), true);
        due("derives(12, 0, 2)", x.derives(12, 0, 2), true);
        due("derives(14, 2, 3)", x.derives(14, 2, 3), true);
    }

    private static void leftNone() {
        ChartParser x = new ChartParser();
        for (int left : NO_NONTERMINALS) {
            due("produce(" + left + ", -1, -1, -1)", x.produce(left, -1, -1, -1), -1);
            due("produce(" + left + ", 0, 1, 2)", x.produce(left, 0, 1, 2), -1);
        }
        due("retract()", x.retract(), false);
    }

    private static void noSymbol() {
        ChartParser x = new ChartParser();
        for (int s : new int[] {LOW, -10, -2, 6, 7, 8, 9, 15, 16, HIGH}) {
            due("produce(10, " + s + ", -1, -1)", x.produce(10, s, -1, -1), -1);
            due("produce(10, 0, " + s + ", -1)", x.produce(10, 0, s, -1), -1);
            due("produce(10, 0, 14, " + s + ")", x.produce(10, 0, 14, s), -1);
            due("produce(10, " + s + ", 5, 10)", x.produce(10, s, 5, 10), -1);
            due("produce(10, 5, " + s + ", 10)", x.produce(10, 5, s, 10), -1);
        }
        due("retract()", x.retract(), false);
    }

    private static void behindNone() {
        ChartParser x = new ChartParser();
        for (int s : new int[] {0, 5, 10, 14}) {
            due("produce(10, -1, " + s + ", -1)", x.produce(10, -1, s, -1), -1);
            due("produce(10, -1, -1, " + s + ")", x.produce(10, -1, -1, s), -1);
            due("produce(10, " + s + ", -1, " + s + ")", x.produce(10, s, -1, s), -1);
            due("produce(10, -1, " + s + ", " + s + ")", x.produce(10, -1, s, s), -1);
        }
        due("retract()", x.retract(), false);
    }

    private static ChartParser twelve() {
        ChartParser x = new ChartParser();
        for (int p = 0; p < 12; p++) {
            x.produce(10 + p % 5, p % 6, -1, -1);
        }
        return x;
    }

    private static void twelveThere() {
        ChartParser x = twelve();
        due("produce(10, -1, -1, -1)", x.produce(10, -1, -1, -1), -2);
        due("produce(14, 5, 14, 14)", x.produce(14, 5, 14, 14), -2);
        due("the same again", x.produce(10, -1, -1, -1), -2);
        due("retract()", x.retract(), true);
        due("produce(10, -1, -1, -1) in its place", x.produce(10, -1, -1, -1), 11);
        due("produce(10, -1, -1, -1)", x.produce(10, -1, -1, -1), -2);
    }

    private static void badBeforeFull() {
        ChartParser x = twelve();
        due("left is none", x.produce(9, -1, -1, -1), -1);
        due("left is none", x.produce(15, 0, 0, 0), -1);
        due("a is none", x.produce(10, 6, -1, -1), -1);
        due("b is none", x.produce(10, 0, -2, -1), -1);
        due("c is none", x.produce(10, 0, 0, 9), -1);
        due("b behind a -1", x.produce(10, -1, 0, -1), -1);
        due("c behind a -1", x.produce(10, 0, -1, 0), -1);
        due("none of these", x.produce(10, 0, 0, 0), -2);
    }

    // ---- promise 3: retract ----

    private static void greatestNumber() {
        ChartParser x = parser(rules(r(10, 0), r(10, 1), r(10, 0)), 0);
        due("trees(10, 0, 1)", x.trees(10, 0, 1), 2);
        due("retract()", x.retract(), true);
        due("trees(10, 0, 1)", x.trees(10, 0, 1), 1);
        due("expected(0)", x.expected(0), 3);
        due("retract()", x.retract(), true);
        due("expected(0)", x.expected(0), 1);
        due("distance(10, 0, 1)", x.distance(10, 0, 1), 0);
        due("retract()", x.retract(), true);
        due("errorAt()", x.errorAt(), -2);
    }

    private static void nothingToRetract() {
        ChartParser x = new ChartParser();
        due("retract() of a new object", x.retract(), false);
        x.produce(10, 0, -1, -1);
        due("retract() of one", x.retract(), true);
        due("retract() of none", x.retract(), false);
        due("retract() of none again", x.retract(), false);
        due("produce(10, 0, -1, -1)", x.produce(10, 0, -1, -1), 0);
    }

    // ---- promise 4: action ----

    private static void noSuchProduction() {
        ChartParser x = parser(rules(r(10, 3), r(10, 4)), 3);
        for (int p : new int[] {LOW, -1, 2, 11, 12, HIGH}) {
            due("action(" + p + ", 0, 9)", x.action(p, 0, 9), false);
        }
        due("value(10, 0, 1)", x.value(10, 0, 1), 3);
        due("action(1, 0, 9)", x.action(1, 0, 9), true);
        due("value(10, 0, 1)", x.value(10, 0, 1), 3);
        x.retract();
        due("action(1, 0, 9) of one taken away", x.action(1, 0, 9), false);
        due("produce(10, 4, -1, -1)", x.produce(10, 4, -1, -1), 1);
        x.set(0, 4);
        due("value(10, 0, 1)", x.value(10, 0, 1), 4);
        ChartParser y = twelve();
        due("action(11, 7, 0) of twelve", y.action(11, 7, 0), true);
        due("action(12, 7, 0) of twelve", y.action(12, 7, 0), false);
    }

    private static void noSuchOp() {
        ChartParser x = parser(rules(r(10, 3)), 3);
        for (int op : new int[] {LOW, -8, -1, 8, 9, HIGH}) {
            due("action(0, " + op + ", 9)", x.action(0, op, 9), false);
            due("value(10, 0, 1)", x.value(10, 0, 1), 3);
        }
        int[] values = {9, 12, 27, -6, 93, 9, 0, 3};
        for (int op = 0; op <= 7; op++) {
            due("action(0, " + op + ", 9)", x.action(0, op, 9), true);
            due("value(10, 0, 1) by op " + op, x.value(10, 0, 1), values[op]);
        }
        for (int op : new int[] {-1, 8}) {
            x.action(0, 4, 9);
            due("action(0, " + op + ", 1)", x.action(0, op, 1), false);
            due("value(10, 0, 1) by op 4", x.value(10, 0, 1), 93);
        }
    }

    // ---- promises 5 to 7: insert, erase, set ----

    /** The text as far as it has tokens, read by way of the values of single ones, as one number with a 9 before it. */
    private static long textOf(ChartParser x) {
        long read = 9;
        for (int k = 0; k <= 10 && x.expected(k + 1) != -1; k++) {
            read = 10 * read + x.value(14, k, k + 1);
        }
        return read;
    }

    private static ChartParser reader(int... text) {
        return parser(rules(r(14, 0), r(14, 1), r(14, 2), r(14, 3), r(14, 4), r(14, 5)), text);
    }

    private static void insertAtNoPlace() {
        ChartParser x = reader();
        for (int at : new int[] {LOW, -1, 1, 10, HIGH}) {
            due("insert(" + at + ", 3) into nothing", x.insert(at, 3), false);
        }
        due("the text", textOf(x), 9);
        due("insert(0, 1)", x.insert(0, 1), true);
        due("insert(1, 2) at the end", x.insert(1, 2), true);
        due("insert(0, 3) at the beginning", x.insert(0, 3), true);
        due("insert(1, 4) between", x.insert(1, 4), true);
        due("insert(3, 5) before the last", x.insert(3, 5), true);
        due("the text", textOf(x), 934152);
        for (int at : new int[] {LOW, -1, 6, 10, 11, HIGH}) {
            due("insert(" + at + ", 3)", x.insert(at, 3), false);
        }
        due("the text", textOf(x), 934152);
    }

    private static void insertNoTerminal() {
        ChartParser x = reader(1, 2);
        for (int t : new int[] {LOW, -1, 6, 9, 10, 14, HIGH}) {
            due("insert(0, " + t + ")", x.insert(0, t), false);
            due("insert(2, " + t + ")", x.insert(2, t), false);
        }
        due("the text", textOf(x), 912);
        due("insert(1, 0)", x.insert(1, 0), true);
        due("insert(2, 5)", x.insert(2, 5), true);
        due("the text", textOf(x), 91052);
    }

    private static void insertIntoTen() {
        ChartParser x = reader(0, 1, 2, 3, 4, 5, 4, 3, 2);
        due("insert(9, 1), the tenth", x.insert(9, 1), true);
        for (int at = 0; at <= 10; at++) {
            due("insert(" + at + ", 5), the eleventh", x.insert(at, 5), false);
        }
        due("the text", textOf(x), 90123454321L);
        x.erase(4);
        due("insert(0, 5), the tenth", x.insert(0, 5), true);
        due("the text", textOf(x), 95012354321L);
        due("insert(0, 5), the eleventh", x.insert(0, 5), false);
    }

    private static void eraseNone() {
        ChartParser x = reader(1, 2, 3);
        for (int at : new int[] {LOW, -1, 3, 4, 10, HIGH}) {
            due("erase(" + at + ")", x.erase(at), false);
        }
        due("the text", textOf(x), 9123);
        due("erase(2), the last", x.erase(2), true);
        due("the text", textOf(x), 912);
        due("erase(2)", x.erase(2), false);
        due("erase(0), the first", x.erase(0), true);
        due("the text", textOf(x), 92);
        due("erase(0), the only one", x.erase(0), true);
        due("erase(0) of nothing", x.erase(0), false);
        due("the text", textOf(x), 9);
    }

    private static void eraseOfTen() {
        ChartParser x = reader(0, 1, 2, 3, 4, 5, 4, 3, 2, 1);
        due("erase(10)", x.erase(10), false);
        due("erase(9)", x.erase(9), true);
        due("the text", textOf(x), 9012345432L);
        due("erase(0)", x.erase(0), true);
        due("erase(3)", x.erase(3), true);
        due("the text", textOf(x), 91235432L);
    }

    private static void setNoToken() {
        ChartParser x = reader();
        due("set(0, 0) of nothing", x.set(0, 0), false);
        due("set(-1, 0) of nothing", x.set(-1, 0), false);
        write(x, 1, 2, 3);
        for (int at : new int[] {LOW, -1, 3, 4, 10, HIGH}) {
            due("set(" + at + ", 5)", x.set(at, 5), false);
        }
        due("the text", textOf(x), 9123);
        due("set(0, 5)", x.set(0, 5), true);
        due("set(2, 0)", x.set(2, 0), true);
        due("the text", textOf(x), 9520);
        ChartParser y = reader(0, 1, 2, 3, 4, 5, 4, 3, 2, 1);
        due("set(10, 5) of ten", y.set(10, 5), false);
        due("set(9, 5) of ten", y.set(9, 5), true);
        due("the text", textOf(y), 90123454325L);
    }

    private static void setNoTerminal() {
        ChartParser x = reader(1, 2, 3);
        for (int t : new int[] {LOW, -1, 6, 9, 10, HIGH}) {
            due("set(1, " + t + ")", x.set(1, t), false);
        }
        due("the text", textOf(x), 9123);
        due("set(1, 2), the same", x.set(1, 2), true);
        due("set(1, 0)", x.set(1, 0), true);
        due("set(2, 5)", x.set(2, 5), true);
        due("the text", textOf(x), 9105);
    }

    // ---- promises 8 to 12: derives, trees, height, longest, value ----

    /** Every nonterminal derives every part of the text. */
    private static ChartParser all(int size) {
        ChartParser x = new ChartParser();
        for (int n = 10; n <= 14; n++) {
            x.produce(n, 0, n, -1);
            x.produce(n, -1, -1, -1);
        }
        write(x, times(size, 0));
        return x;
    }

    private static void noNonterminal() {
        ChartParser x = all(10);
        for (int n : NO_NONTERMINALS) {
            outside(x, n, 0, 0);
            outside(x, n, 0, 10);
        }
        due("derives(10, 0, 10)", x.derives(10, 0, 10), true);
        due("derives(14, 0, 10)", x.derives(14, 0, 10), true);
    }

    private static void noPlace() {
        for (int size : new int[] {0, 3, 9, 10}) {
            ChartParser x = all(size);
            for (int at : new int[] {LOW, -1, size + 1, 11, HIGH}) {
                outside(x, 10, at, at);
                outside(x, 12, 0, at);
                outside(x, 14, at, size);
            }
            due("derives(14, 0, " + size + ")", x.derives(14, 0, size), true);
            due("derives(14, " + size + ", " + size + ")", x.derives(14, size, size), true);
        }
        ChartParser y = all(10);
        for (int[] alias : ALIASES) {
            outside(y, alias[0], alias[1], alias[2]);
        }
    }

    private static void beginAboveEnd() {
        ChartParser x = all(10);
        for (int i = 1; i <= 10; i++) {
            outside(x, 10, i, i - 1);
            outside(x, 14, i, 0);
            due("derives(10, " + i + ", " + i + ")", x.derives(10, i, i), true);
        }
    }

    // Over the empty text: 3, 27, 999 and 998001 trees of 14, 13, 12 and 11.
    private static int[][] oneBelowTheLimit() {
        return rules(r(14), r(14), r(14), r(13, 14, 14, 14), r(12, 13, 14, 14), r(12, 13, 13), r(12, 13), r(11, 12, 12),
            r(10, 11, 12), r(10, 11, 14), r(10, 12, 14));
    }

    private static void atMostTheLimit() {
        ChartParser x = parser(oneBelowTheLimit());
        due("one below the limit", x.trees(10, 0, 0), 999999999);
        x.produce(10, -1, -1, -1);
        due("the limit", x.trees(10, 0, 0), 1000000000);
        x.retract();
        x.produce(10, 14, -1, -1);
        due("two above the limit", x.trees(10, 0, 0), 1000000000);
        ChartParser y = parser(rules(r(14), r(14), r(14), r(13), r(13, 14, 14), r(11, 13, 13, 13), r(10, 11, 11, 11)));
        due("the limit by a product", y.trees(10, 0, 0), 1000000000);
        y.produce(10, -1, -1, -1);
        due("one above the limit", y.trees(10, 0, 0), 1000000000);
        y.produce(12, 10, 10, 10);
        due("the limit three times multiplied", y.trees(12, 0, 0), 1000000000);
    }

    private static void countsThatWouldWrap() {
        ChartParser x = parser(rules(r(14), r(14), r(14), r(14), r(13, 14, 14), r(12, 13, 13), r(11, 12, 12), r(10, 11, 11)));
        due("2^16 trees", x.trees(11, 0, 0), 65536);
        due("2^32 trees", x.trees(10, 0, 0), 1000000000);
        ChartParser y = parser(rules(r(14), r(14), r(14), r(14), r(13, 14, 14), r(12, 13, 13, 13), r(11, 12, 12, 14), r(10, 11, 11, 12)));
        due("2^12 trees", y.trees(12, 0, 0), 4096);
        due("2^26 trees", y.trees(11, 0, 0), 67108864);
        due("2^64 trees", y.trees(10, 0, 0), 1000000000);
        ChartParser z = new ChartParser();
        for (int p = 0; p < 8; p++) {
            z.produce(14, -1, -1, -1);
        }
        for (int n = 13; n >= 10; n--) {
            z.produce(n, n + 1, n + 1, n + 1);
        }
        due("2^243 trees", z.trees(10, 0, 0), 1000000000);
        // A sum of many counts that are each at the limit.
        ChartParser u = parser(rules(r(14), r(14), r(14), r(14), r(13, 14, 14, 14), r(12, 13, 13, 13), r(11, 12, 12, 12), r(10, 11), r(10, 11), r(10, 11), r(10, 11), r(10, 11)));
        due("five times the limit", u.trees(10, 0, 0), 1000000000);
    }

    private static void endless() {
        ChartParser x = parser(rules(r(10, 10), r(10, 0)), 0);
        due("a ring of one", x.trees(10, 0, 1), -3);
        due("where nothing is derived", x.trees(10, 0, 0), 0);
        ChartParser y = parser(rules(r(10, 11), r(11, 12), r(12, 13), r(13, 14), r(14, 10), r(14)));
        for (int n = 10; n <= 14; n++) {
            due("a ring of five: " + n, y.trees(n, 0, 0), -3);
        }
        ChartParser z = parser(rules(r(10, 11, 10, 11), r(10, 0), r(11)), 0);
        due("a ring by way of empty parts", z.trees(10, 0, 1), -3);
        due("the empty part itself", z.trees(11, 0, 0), 1);
        z.retract();
        due("the parts beside it derive nothing", z.trees(10, 0, 1), 1);
        ChartParser u = parser(rules(r(10, 10, 10), r(10)));
        due("the empty text in itself", u.trees(10, 0, 0), -3);
    }

    private static void endlessWithin() {
        ChartParser x = parser(rules(r(10, 11, 1), r(11, 11), r(11, 0), r(12, 1, 11), r(13, 12), r(13, 1), r(14, 0)), 0, 1);
        due("an endless part", x.trees(10, 0, 2), -3);
        due("an endless part that is not there", x.trees(13, 1, 2), 1);
        due("beside it", x.trees(14, 0, 1), 1);
        endlessInEachPart();
        // More than the limit and endlessly many: endlessly many.
        ChartParser y = parser(oneBelowTheLimit());
        y.produce(10, 10, -1, -1);
        due("endlessly many of many", y.trees(10, 0, 0), -3);
        due("the many within", y.trees(11, 0, 0), 998001);
        // A ring that no tree comes out of.
        ChartParser z = parser(rules(r(10, 11), r(11, 11), r(10, 0), r(12, 12, 10), r(12, 10)), 0);
        due("a ring without an end", z.trees(10, 0, 1), 1);
        due("no ring, as 10 is never empty", z.trees(12, 0, 1), 1);
    }

    private static void endlessInEachPart() {
        // 11 is endless over a 0, 12 has two trees over a 1, and nothing has one over a 5.
        for (int first = 0; first < 3; first++) {
            int[] endless = r(10, 12, 12, 12);
            int[] lacking = r(13, 12, 12, 12);
            int[] text = times(3, 1);
            endless[1 + first] = 11;
            lacking[1 + first] = 11;
            lacking[1 + (first + 1) % 3] = 5;
            text[first] = 0;
            ChartParser x = parser(rules(r(11, 11), r(11, 0), r(12, 1), r(12, 1), endless, lacking, r(13, text[0], text[1], text[2])), text);
            due("part " + first + " endless, the others two each", x.trees(10, 0, 3), -3);
            due("part " + first + " endless, another not there", x.trees(13, 0, 3), 1);
        }
        ChartParser y = parser(rules(r(11, 11), r(11, 0), r(12, 1), r(13, 11, 12, 5), r(13, 0, 1), r(14, 5, 12, 11), r(14, 1, 0)), 0, 1);
        due("the first part endless, the last not there", y.trees(13, 0, 2), 1);
        write(y, 1, 0);
        due("the last part endless, the first not there", y.trees(14, 0, 2), 1);
    }

    private static void noTrees() {
        ChartParser x = parser(rules(r(10, 0), r(11, 11)), 0, 1);
        due("trees(10, 0, 0)", x.trees(10, 0, 0), 0);
        due("trees(10, 1, 2)", x.trees(10, 1, 2), 0);
        due("trees(10, 0, 2)", x.trees(10, 0, 2), 0);
        due("trees(11, 0, 1)", x.trees(11, 0, 1), 0);
        due("trees(14, 0, 1)", x.trees(14, 0, 1), 0);
        due("trees(15, 0, 1)", x.trees(15, 0, 1), 0);
        due("trees(10, 1, 0)", x.trees(10, 1, 0), 0);
        due("trees(10, 0, 3)", x.trees(10, 0, 3), 0);
        due("trees(10, -1, 1)", x.trees(10, -1, 1), 0);
    }

    private static void noHeight() {
        ChartParser x = parser(rules(r(10, 0), r(11, 11)), 0, 1);
        due("height(10, 0, 1)", x.height(10, 0, 1), 1);
        due("height(10, 0, 0)", x.height(10, 0, 0), 0);
        due("height(10, 1, 2)", x.height(10, 1, 2), 0);
        due("height(11, 0, 1)", x.height(11, 0, 1), 0);
        due("height(14, 0, 1)", x.height(14, 0, 1), 0);
        due("height(9, 0, 1)", x.height(9, 0, 1), 0);
        due("height(15, 0, 1)", x.height(15, 0, 1), 0);
        due("height(10, 1, 0)", x.height(10, 1, 0), 0);
        due("height(10, 0, 3)", x.height(10, 0, 3), 0);
        due("height(10, -1, 1)", x.height(10, -1, 1), 0);
    }

    private static void longestNone() {
        ChartParser x = parser(rules(r(10, 0), r(11), r(12, 0, 12), r(12), r(13, 13)), 0, 0, 1);
        due("longest(10, 0)", x.longest(10, 0), 1);
        due("longest(10, 2)", x.longest(10, 2), -1);
        due("longest(10, 3)", x.longest(10, 3), -1);
        due("longest(13, 0)", x.longest(13, 0), -1);
        due("longest(14, 0)", x.longest(14, 0), -1);
        due("longest(11, 0): the empty part", x.longest(11, 0), 0);
        due("longest(11, 3): the empty part at the end", x.longest(11, 3), 3);
        due("longest(12, 0): not the empty part", x.longest(12, 0), 2);
        due("longest(12, 2)", x.longest(12, 2), 2);
    }

    private static void longestWrong() {
        for (int size : new int[] {0, 3, 10}) {
            ChartParser x = all(size);
            due("longest(14, 0)", x.longest(14, 0), size);
            due("longest(14, " + size + ")", x.longest(14, size), size);
            for (int i : new int[] {LOW, -11, -1, size + 1, 11, HIGH}) {
                due("longest(10, " + i + ")", x.longest(10, i), -1);
                due("longest(14, " + i + ")", x.longest(14, i), -1);
            }
            for (int n : NO_NONTERMINALS) {
                due("longest(" + n + ", 0)", x.longest(n, 0), -1);
                due("longest(" + n + ", " + size + ")", x.longest(n, size), -1);
            }
        }
    }

    private static void noValue() {
        ChartParser x = parser(rules(r(10, 0), r(11, 11), r(12, 10)), 0, 1);
        due("value(10, 0, 1), that is 0", x.value(10, 0, 1), 0);
        due("value(10, 0, 0)", x.value(10, 0, 0), NONE);
        due("value(10, 1, 2)", x.value(10, 1, 2), NONE);
        due("value(11, 0, 1)", x.value(11, 0, 1), NONE);
        due("value(14, 0, 1)", x.value(14, 0, 1), NONE);
        due("value(9, 0, 1)", x.value(9, 0, 1), NONE);
        due("value(15, 0, 1)", x.value(15, 0, 1), NONE);
        due("value(10, 1, 0)", x.value(10, 1, 0), NONE);
        due("value(10, 0, 3)", x.value(10, 0, 3), NONE);
        due("value(10, -1, 1)", x.value(10, -1, 1), NONE);
        x.action(0, 6, 0);
        due("value(10, 0, 1), divided by 0", x.value(10, 0, 1), NONE);
        due("value(12, 0, 1), of no value", x.value(12, 0, 1), NONE);
        due("derives(12, 0, 1) none the less", x.derives(12, 0, 1), true);
        x.action(0, 0, 0);
        due("value(12, 0, 1) after another action", x.value(12, 0, 1), 0);
    }

    private static void valueOfTheChosen() {
        // The chosen tree has no value, and no other tree is asked.
        ChartParser x = parser(rules(r(10, 0), r(10, 0)), 0);
        x.action(0, 6, 0);
        x.action(1, 0, 7);
        due("value(10, 0, 1)", x.value(10, 0, 1), NONE);
    }

    // ---- promise 13: node ----

    private static void noSuchNode() {
        ChartParser x = parser(rules(r(10, 11, 11), r(11, 0)), 0, 0);
        int[] nodes = {2, 10001, 10102};
        for (int k = 0; k < 3; k++) {
            due("node(" + k + ")", x.node(k), nodes[k]);
        }
        for (int k : new int[] {LOW, -1, 3, 4, 605, 1000000000, HIGH}) {
            due("node(" + k + ")", x.node(k), -1);
        }
        ChartParser y = parser(rules(r(10)));
        due("node(0) of one", y.node(0), 0);
        due("node(1) of one", y.node(1), -1);
    }

    private static void manyNodes() {
        // 1 + 3 + 9 + 27 + 81 nodes, all of them over the empty text.
        ChartParser x = parser(rules(r(10, 11, 11, 11), r(11, 12, 12, 12), r(12, 13, 13, 13), r(13, 14, 14, 14), r(14)));
        due("node(0)", x.node(0), 0);
        due("node(4)", x.node(4), 40000);
        due("node(7)", x.node(7), 30000);
        due("node(41)", x.node(41), 10000);
        due("node(80)", x.node(80), 40000);
        due("node(81)", x.node(81), 10000);
        due("node(120)", x.node(120), 40000);
        due("node(121)", x.node(121), -1);
    }

    private static void greatestNode() {
        ChartParser x = new ChartParser();
        for (int p = 0; p < 11; p++) {
            x.produce(11, 1, -1, -1);
        }
        x.produce(10, 0, 0, -1);
        write(x, 0, 0);
        due("node(0) of production 11", x.node(0), 110002);
        x.retract();
        x.retract();
        x.produce(10, 10, 0, -1);
        x.produce(10, -1, -1, -1);
        write(x, times(10, 0));
        due("node(0) to place 10", x.node(0), 100010);
        due("node(9)", x.node(9), 100001);
        due("node(10)", x.node(10), 110000);
        x.retract();
        x.retract();
        x.produce(10, 0, 10, -1);
        x.produce(10, -1, -1, -1);
        due("node(10) from place 10", x.node(10), 111010);
        due("node(11)", x.node(11), -1);
    }

    private static void noSentence() {
        ChartParser x = parser(rules(r(10, 0, 0), r(11, 0, 0, 0), r(11, 0)), 0);
        due("node(0) of a beginning", x.node(0), -1);
        x.insert(0, 0);
        due("node(0) of a sentence", x.node(0), 2);
        x.insert(0, 0);
        due("node(0) of more than a sentence", x.node(0), -1);
        write(x);
        due("node(0) of nothing", x.node(0), -1);
        x.retract();
        x.retract();
        x.retract();
        due("node(0) without productions", x.node(0), -1);
    }

    // ---- promise 14: distance ----

    private static void distanceOfUnproductive() {
        ChartParser x = parser(rules(r(10, 10, 0), r(11, 12), r(12, 11), r(13, 0)), 0);
        for (int n : new int[] {10, 11, 12, 14}) {
            due("distance(" + n + ", 0, 0)", x.distance(n, 0, 0), -1);
            due("distance(" + n + ", 0, 1)", x.distance(n, 0, 1), -1);
        }
        due("distance(13, 0, 1)", x.distance(13, 0, 1), 0);
        due("distance(13, 1, 1)", x.distance(13, 1, 1), 1);
        x.produce(12, -1, -1, -1);
        due("distance(11, 0, 1), productive now", x.distance(11, 0, 1), 1);
        x.retract();
        due("distance(11, 0, 1), productive no more", x.distance(11, 0, 1), -1);
    }

    private static void distanceWrong() {
        ChartParser x = all(3);
        for (int n : NO_NONTERMINALS) {
            due("distance(" + n + ", 0, 3)", x.distance(n, 0, 3), -1);
        }
        for (int at : new int[] {LOW, -1, 4, 11, HIGH}) {
            due("distance(10, " + at + ", 3)", x.distance(10, at, 3), -1);
            due("distance(10, 0, " + at + ")", x.distance(10, 0, at), -1);
            due("distance(10, " + at + ", " + at + ")", x.distance(10, at, at), -1);
        }
        for (int i = 1; i <= 3; i++) {
            due("distance(10, " + i + ", " + (i - 1) + ")", x.distance(10, i, i - 1), -1);
            due("distance(10, " + i + ", " + i + ")", x.distance(10, i, i), 0);
        }
    }

    // ---- promise 15: errorAt ----

    private static void errorInNoSentence() {
        ChartParser x = parser(rules(r(10, 0, 1), r(10, 0, 1, 2)));
        due("the empty text", x.errorAt(), 0);
        write(x, 0);
        due("a beginning", x.errorAt(), 1);
        write(x, 0, 1);
        due("a sentence that is also a beginning", x.errorAt(), -1);
        write(x, 0, 1, 2);
        due("a sentence", x.errorAt(), -1);
        write(x, 0, 1, 2, 2);
        due("one token too many", x.errorAt(), 3);
        write(x, 1, 0, 1);
        due("wrong at once", x.errorAt(), 0);
        write(x, 0, 0, 1, 2);
        due("wrong at 1, though right behind", x.errorAt(), 1);
        ChartParser y = parser(rules(r(10, 0, 10, 1), r(10, 2)), times(10, 0));
        due("ten tokens that are a beginning", y.errorAt(), 10);
        y.set(9, 1);
        due("nine tokens that are a beginning", y.errorAt(), 9);
        ChartParser z = parser(rules(r(10)));
        due("the empty text as the only sentence", z.errorAt(), -1);
        z.insert(0, 0);
        due("a token where the empty text is the only sentence", z.errorAt(), 0);
    }

    private static void notEvenTheEmptyText() {
        ChartParser x = new ChartParser();
        due("no productions", x.errorAt(), -2);
        x.insert(0, 0);
        due("no productions, a text", x.errorAt(), -2);
        x.produce(11, 0, -1, -1);
        due("no production of the start", x.errorAt(), -2);
        x.produce(10, 0, 10, -1);
        due("a start that never ends", x.errorAt(), -2);
        x.produce(10, 12, 11, -1);
        due("a start that needs what is not there", x.errorAt(), -2);
        x.produce(12, -1, -1, -1);
        due("a start that ends", x.errorAt(), -1);
    }

    // ---- promise 16: expected ----

    private static void nothingExpected() {
        ChartParser x = parser(rules(r(10, 0, 1)), 0, 2, 1);
        due("expected(0)", x.expected(0), 1);
        due("expected(1)", x.expected(1), 2);
        due("expected(2), no beginning", x.expected(2), 0);
        due("expected(3), no beginning", x.expected(3), 0);
        ChartParser y = parser(rules(r(10, 0, 10)), 0);
        due("expected(0) without sentences", y.expected(0), 0);
        due("expected(1) without sentences", y.expected(1), 0);
        ChartParser z = parser(rules(r(10, 0, 11), r(10, 1), r(11, 11)), 0);
        due("expected(0), 11 having no trees", z.expected(0), 2);
        due("expected(1), 11 having no trees", z.expected(1), 0);
    }

    private static void allExpected() {
        ChartParser x = parser(rules(r(10), r(10, 0, 10), r(10, 1, 10), r(10, 2, 10), r(10, 3, 10), r(10, 4, 10), r(10, 5, 10)), 5, 4, 3, 2, 1, 0, 5, 5, 5, 5);
        for (int k = 0; k <= 10; k++) {
            due("expected(" + k + ")", x.expected(k), 127);
        }
        due("expected(11)", x.expected(11), -1);
    }

    private static void sentenceExpected() {
        ChartParser x = parser(rules(r(10, 0), r(10, 0, 1, 0), r(10)), 0, 1, 0);
        due("expected(0), the empty text a sentence", x.expected(0), 65);
        due("expected(1), a sentence and a beginning", x.expected(1), 66);
        due("expected(2), a beginning", x.expected(2), 1);
        due("expected(3), a sentence", x.expected(3), 64);
        x.retract();
        due("expected(0), the empty text no sentence", x.expected(0), 1);
        ChartParser y = parser(rules(r(10, 0, 10), r(10, 0)), times(10, 0));
        due("expected(10) of ten tokens", y.expected(10), 65);
    }

    private static void expectedNoPlace() {
        for (int size : new int[] {0, 3, 10}) {
            ChartParser x = all(size);
            due("expected(0)", x.expected(0), 65);
            due("expected(" + size + ")", x.expected(size), 65);
            for (int k : new int[] {LOW, -1, size + 1, 11, HIGH}) {
                due("expected(" + k + ")", x.expected(k), -1);
            }
        }
        due("expected(1) of a new object", new ChartParser().expected(1), -1);
    }

    // ---- promise 17: traits ----

    private static void forAnyText() {
        int[][] grammar = rules(r(10, 11, 0), r(11), r(12, 11, 11), r(13, 13), r(10, 13, 14), r(14, 1));
        int[] due = {5, 7, 3, 0, 1};
        for (int size : new int[] {0, 1, 10}) {
            ChartParser x = parser(grammar, times(size, 1));
            for (int n = 10; n <= 14; n++) {
                due("traits(" + n + ") beside " + size + " tokens", x.traits(n), due[n - 10]);
            }
        }
    }

    private static void partOfTheStart() {
        ChartParser x = parser(rules(r(10, 10, 11), r(11), r(12, 10)));
        due("traits(10), never ending", x.traits(10), 0);
        due("traits(11), the start being never ending", x.traits(11), 3);
        due("traits(12)", x.traits(12), 0);
        x.produce(10, 5, -1, -1);
        due("traits(10)", x.traits(10), 5);
        due("traits(11)", x.traits(11), 7);
        due("traits(12), only outside of the start", x.traits(12), 1);
        x.produce(12, 13, -1, -1);
        x.produce(13, 0, -1, -1);
        due("traits(13), part of what is outside of the start", x.traits(13), 1);
        x.produce(10, 13, 14, -1);
        due("traits(13), part of the start beside what is not productive", x.traits(13), 1);
        x.produce(14, -1, -1, -1);
        due("traits(13), part of the start", x.traits(13), 5);
        // Each only by way of the one before it, the last one put first.
        ChartParser y = parser(rules(r(14, 0), r(13, 14), r(12, 13), r(11, 12), r(10, 11)));
        for (int n = 10; n <= 14; n++) {
            due("traits(" + n + ") of a chain", y.traits(n), 5);
        }
    }

    private static void traitsOfNone() {
        ChartParser x = all(1);
        for (int n : NO_NONTERMINALS) {
            due("traits(" + n + ")", x.traits(n), -1);
        }
        due("traits(10)", x.traits(10), 7);
        due("traits(14)", x.traits(14), 3);
        ChartParser y = new ChartParser();
        due("traits(9) of a new object", y.traits(9), -1);
        due("traits(15) of a new object", y.traits(15), -1);
        due("traits(14) of a new object", y.traits(14), 0);
    }

    // ---- promise 18: order and limits ----

    private static ChartParser ordinary() {
        ChartParser x = parser(rules(r(10, 10, 0, 10), r(10, 1), r(11, 10, 12), r(12), r(12, 2), r(13, 12, 12), r(14, 10)), 1, 0, 1, 0, 1, 2);
        x.action(0, 2, 5);
        x.action(6, 3, 4);
        return x;
    }

    private static ChartParser full() {
        ChartParser x = parser(rules(r(10, 0, 10), r(10), r(11, 0), r(12, 1), r(13, 11, 12), r(14, 14)), times(10, 0));
        for (int k = 6; k < 12; k++) {
            x.produce(11, 0, 11, -1);
            x.action(k, 4, k);
        }
        return x;
    }

    /** Makes the call on an object before and after it has answered a question, and compares it with one without the call. */
    private static void changesNothing(String call, Supplier<ChartParser> maker, Consumer<ChartParser> refused) {
        for (int n = 10; n <= 14; n++) {
            ChartParser x = maker.get();
            refused.accept(x);
            alike(call, x, maker.get(), n);
            refused.accept(x);
            ChartParser y = maker.get();
            due(call + ": retract()", x.retract(), y.retract());
            due(call + ": erase(0)", x.erase(0), y.erase(0));
            due(call + ": insert(0, 1)", x.insert(0, 1), y.insert(0, 1));
            due(call + ": produce(11, 1, -1, -1)", x.produce(11, 1, -1, -1), y.produce(11, 1, -1, -1));
            for (int j = 0; j <= 10; j++) {
                due(call + ": value(" + n + ", 0, " + j + ")", x.value(n, 0, j), y.value(n, 0, j));
            }
        }
    }

    private static void refusedOf(String state, Supplier<ChartParser> maker) {
        changesNothing(state + ", produce(9, 0, -1, -1)", maker, x -> x.produce(9, 0, -1, -1));
        changesNothing(state + ", produce(15, 0, -1, -1)", maker, x -> x.produce(15, 0, -1, -1));
        changesNothing(state + ", produce(10, 6, -1, -1)", maker, x -> x.produce(10, 6, -1, -1));
        changesNothing(state + ", produce(10, 0, -2, -1)", maker, x -> x.produce(10, 0, -2, -1));
        changesNothing(state + ", produce(10, -1, 0, -1)", maker, x -> x.produce(10, -1, 0, -1));
        changesNothing(state + ", produce(10, 0, -1, 0)", maker, x -> x.produce(10, 0, -1, 0));
        changesNothing(state + ", action(-1, 0, 9)", maker, x -> x.action(-1, 0, 9));
        changesNothing(state + ", action(12, 0, 9)", maker, x -> x.action(12, 0, 9));
        changesNothing(state + ", action(0, -1, 9)", maker, x -> x.action(0, -1, 9));
        changesNothing(state + ", action(0, 8, 9)", maker, x -> x.action(0, 8, 9));
        changesNothing(state + ", insert(-1, 0)", maker, x -> x.insert(-1, 0));
        changesNothing(state + ", insert(11, 0)", maker, x -> x.insert(11, 0));
        changesNothing(state + ", insert(0, -1)", maker, x -> x.insert(0, -1));
        changesNothing(state + ", insert(0, 6)", maker, x -> x.insert(0, 6));
        changesNothing(state + ", erase(-1)", maker, x -> x.erase(-1));
        changesNothing(state + ", erase(10)", maker, x -> x.erase(10));
        changesNothing(state + ", set(-1, 0)", maker, x -> x.set(-1, 0));
        changesNothing(state + ", set(10, 0)", maker, x -> x.set(10, 0));
        changesNothing(state + ", set(0, -1)", maker, x -> x.set(0, -1));
        changesNothing(state + ", set(0, 6)", maker, x -> x.set(0, 6));
    }

    private static void numbersNotAsSaid() {
        refusedOf("ordinary", ChartParserPromiseBoundaries::ordinary);
        refusedOf("full", ChartParserPromiseBoundaries::full);
        refusedOf("new", ChartParser::new);
    }

    private static void somethingNotThere() {
        changesNothing("ordinary, action(7, 0, 9)", ChartParserPromiseBoundaries::ordinary, x -> x.action(7, 0, 9));
        changesNothing("ordinary, insert(7, 0)", ChartParserPromiseBoundaries::ordinary, x -> x.insert(7, 0));
        changesNothing("ordinary, erase(6)", ChartParserPromiseBoundaries::ordinary, x -> x.erase(6));
        changesNothing("ordinary, set(6, 0)", ChartParserPromiseBoundaries::ordinary, x -> x.set(6, 0));
        changesNothing("new, retract()", ChartParser::new, x -> x.retract());
        changesNothing("new, action(0, 0, 9)", ChartParser::new, x -> x.action(0, 0, 9));
        changesNothing("new, insert(1, 0)", ChartParser::new, x -> x.insert(1, 0));
        changesNothing("new, erase(0)", ChartParser::new, x -> x.erase(0));
        changesNothing("new, set(0, 0)", ChartParser::new, x -> x.set(0, 0));
    }

    private static void limitReached() {
        changesNothing("full, produce(10, 1, -1, -1)", ChartParserPromiseBoundaries::full, x -> x.produce(10, 1, -1, -1));
        changesNothing("full, produce(14, -1, -1, -1)", ChartParserPromiseBoundaries::full, x -> x.produce(14, -1, -1, -1));
        changesNothing("full, insert(0, 1)", ChartParserPromiseBoundaries::full, x -> x.insert(0, 1));
        changesNothing("full, insert(10, 1)", ChartParserPromiseBoundaries::full, x -> x.insert(10, 1));
    }

    private static void refusedQuestions(Supplier<ChartParser> maker) {
        changesNothing("derives(9, 0, 0)", maker, x -> x.derives(9, 0, 0));
        changesNothing("trees(10, 3, 2)", maker, x -> x.trees(10, 3, 2));
        changesNothing("height(10, 0, 11)", maker, x -> x.height(10, 0, 11));
        changesNothing("longest(15, 0)", maker, x -> x.longest(15, 0));
        changesNothing("value(10, -1, 0)", maker, x -> x.value(10, -1, 0));
        changesNothing("node(-1)", maker, x -> x.node(-1));
        changesNothing("node(HIGH)", maker, x -> x.node(HIGH));
        changesNothing("distance(10, 0, 11)", maker, x -> x.distance(10, 0, 11));
        changesNothing("expected(11)", maker, x -> x.expected(11));
        changesNothing("traits(15)", maker, x -> x.traits(15));
    }

    private static void questionsRefused() {
        refusedQuestions(ChartParserPromiseBoundaries::ordinary);
        refusedQuestions(ChartParserPromiseBoundaries::full);
        refusedQuestions(ChartParser::new);
    }

    // ---- all of them ----

    private static void changes() {
        boundary("1: no productions", ChartParserPromiseBoundaries::noProductions);
        boundary("1: an empty text", ChartParserPromiseBoundaries::emptyText);
        boundary("1: a new object", ChartParserPromiseBoundaries::ofItsOwn);
        boundary("2: a, b, c as far as they are not -1", ChartParserPromiseBoundaries::asFarAsThere);
        boundary("2: left is no nonterminal: BAD", ChartParserPromiseBoundaries::leftNone);
        boundary("2: one of a, b, c is neither -1 nor a symbol: BAD", ChartParserPromiseBoundaries::noSymbol);
        boundary("2: one that is not -1 stands behind a -1: BAD", ChartParserPromiseBoundaries::behindNone);
        boundary("2: there are 12: FULL", ChartParserPromiseBoundaries::twelveThere);
        boundary("2: in this order", ChartParserPromiseBoundaries::badBeforeFull);
        boundary("3: the production with the greatest number", ChartParserPromiseBoundaries::greatestNumber);
        boundary("3: false if there is none", ChartParserPromiseBoundaries::nothingToRetract);
        boundary("4: false if there is no such production", ChartParserPromiseBoundaries::noSuchProduction);
        boundary("4: false if op is not 0 to 7", ChartParserPromiseBoundaries::noSuchOp);
        boundary("5: false if at is no place", ChartParserPromiseBoundaries::insertAtNoPlace);
        boundary("5: false if t is no terminal", ChartParserPromiseBoundaries::insertNoTerminal);
        boundary("5: false if there are 10 tokens", ChartParserPromiseBoundaries::insertIntoTen);
        boundary("6: false if there is none", ChartParserPromiseBoundaries::eraseNone);
        boundary("6: takes a token out of a full text", ChartParserPromiseBoundaries::eraseOfTen);
        boundary("7: false if there is no such token", ChartParserPromiseBoundaries::setNoToken);
        boundary("7: false if there is no such terminal", ChartParserPromiseBoundaries::setNoTerminal);
    }

    private static void treeQuestions() {
        boundary("8: false if n is none", ChartParserPromiseBoundaries::noNonterminal);
        boundary("8: false if i or j is no place", ChartParserPromiseBoundaries::noPlace);
        boundary("8: false if i is above j", ChartParserPromiseBoundaries::beginAboveEnd);
        boundary("9: at most 1000000000: then that", ChartParserPromiseBoundaries::atMostTheLimit);
        boundary("9: at most 1000000000, however many more", ChartParserPromiseBoundaries::countsThatWouldWrap);
        boundary("9: ENDLESS if there are endlessly many", ChartParserPromiseBoundaries::endless);
        boundary("9: ENDLESS with endlessly many within", ChartParserPromiseBoundaries::endlessWithin);
        boundary("9: 0 where derives says false", ChartParserPromiseBoundaries::noTrees);
        boundary("10: 0 where derives says false", ChartParserPromiseBoundaries::noHeight);
        boundary("11: -1 if there is none", ChartParserPromiseBoundaries::longestNone);
        boundary("11: -1 if n is no nonterminal or i is no place", ChartParserPromiseBoundaries::longestWrong);
        boundary("12: NONE if it has no value and where derives says false", ChartParserPromiseBoundaries::noValue);
        boundary("12: the value of the chosen tree", ChartParserPromiseBoundaries::valueOfTheChosen);
        boundary("13: -1 if there is no such node", ChartParserPromiseBoundaries::noSuchNode);
        boundary("13: node number k, many nodes being there", ChartParserPromiseBoundaries::manyNodes);
        boundary("13: 10000 times plus 100 times plus", ChartParserPromiseBoundaries::greatestNode);
        boundary("13: -1 if the text is no sentence", ChartParserPromiseBoundaries::noSentence);
    }

    private static void otherQuestions() {
        boundary("14: -1 if it is not productive", ChartParserPromiseBoundaries::distanceOfUnproductive);
        boundary("14: -1 where n, i, j are not as for derives", ChartParserPromiseBoundaries::distanceWrong);
        boundary("15: -1 if the text is a sentence; else the greatest k", ChartParserPromiseBoundaries::errorInNoSentence);
        boundary("15: -2 if not even the empty text is one", ChartParserPromiseBoundaries::notEvenTheEmptyText);
        boundary("16: 0 if they are no beginning", ChartParserPromiseBoundaries::nothingExpected);
        boundary("16: the sum of 2^t for the terminals", ChartParserPromiseBoundaries::allExpected);
        boundary("16: 64 if the first k tokens are a sentence", ChartParserPromiseBoundaries::sentenceExpected);
        boundary("16: -1 if k is no place", ChartParserPromiseBoundaries::expectedNoPlace);
        boundary("17: what is true for any text", ChartParserPromiseBoundaries::forAnyText);
        boundary("17: part of a tree of the start", ChartParserPromiseBoundaries::partOfTheStart);
        boundary("17: -1 if n is none", ChartParserPromiseBoundaries::traitsOfNone);
        boundary("18: a number is not as said there", ChartParserPromiseBoundaries::numbersNotAsSaid);
        boundary("18: something is not there", ChartParserPromiseBoundaries::somethingNotThere);
        boundary("18: a limit is reached", ChartParserPromiseBoundaries::limitReached);
        boundary("18: a question that is refused", ChartParserPromiseBoundaries::questionsRefused);
    }

    public static void main(String[] args) {
        changes();
        treeQuestions();
        otherQuestions();
        finish();
    }
}
