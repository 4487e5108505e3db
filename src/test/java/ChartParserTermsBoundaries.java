/** Each sentence of the document's 'Terms' that names a boundary case, with a test of its own. */
public final class ChartParserTermsBoundaries extends Trial {

    // ---- symbols, productions, the text ----

    private static void terminals() {
        ChartParser x = new ChartParser();
        for (int t = 0; t <= 5; t++) {
            due("produce(10, " + t + ", -1, -1)", x.produce(10, t, -1, -1), t);
            due("insert(" + t + ", 0)", x.insert(t, 0), true);
            due("set(" + t + ", " + t + ")", x.set(t, t), true);
            due("insert(0, " + t + ")", x.insert(0, t), true);
            due("value(10, 0, 1)", x.value(10, 0, 1), t);
            due("erase(0)", x.erase(0), true);
            due("value(10, " + t + ", " + (t + 1) + ")", x.value(10, t, t + 1), t);
        }
        for (int t : new int[] {LOW, -2, -1, 6, 7, 8, 9, 10, 14, HIGH}) {
            due("insert(0, " + t + ")", x.insert(0, t), false);
            due("set(0, " + t + ")", x.set(0, t), false);
        }
        for (int t : new int[] {LOW, -2, 6, 7, 8, 9, HIGH}) {
            due("produce(10, " + t + ", -1, -1)", x.produce(10, t, -1, -1), -1);
        }
        due("expected(0)", x.expected(0), 63);
        due("expected(7)", x.expected(7), -1);
    }

    private static void nonterminals() {
        ChartParser x = new ChartParser();
        for (int n = 10; n <= 14; n++) {
            due("produce(" + n + ", -1, -1, -1)", x.produce(n, -1, -1, -1), 2 * n - 20);
            due("produce(10, " + n + ", 0, -1)", x.produce(10, n, 0, -1), 2 * n - 19);
            due("derives(" + n + ", 0, 0)", x.derives(n, 0, 0), true);
            due("trees(" + n + ", 0, 0)", x.trees(n, 0, 0), 1);
            due("height(" + n + ", 0, 0)", x.height(n, 0, 0), 1);
            due("longest(" + n + ", 0)", x.longest(n, 0), 0);
            due("value(" + n + ", 0, 0)", x.value(n, 0, 0), 0);
            due("distance(" + n + ", 0, 0)", x.distance(n, 0, 0), 0);
            due("traits(" + n + ")", x.traits(n), 7);
        }
        for (int n : new int[] {LOW, -1, 0, 5, 6, 9, 15, 16, HIGH}) {
            due("produce(" + n + ", -1, -1, -1)", x.produce(n, -1, -1, -1), -1);
            outside(x, n, 0, 0);
            due("longest(" + n + ", 0)", x.longest(n, 0), -1);
            due("traits(" + n + ")", x.traits(n), -1);
        }
        for (int n : new int[] {LOW, 9, 15, HIGH}) {
            due("produce(10, " + n + ", -1, -1)", x.produce(10, n, -1, -1), -1);
        }
    }

    private static void start() {
        ChartParser x = parser(rules(r(11, 0), r(12, 0), r(13, 0), r(14, 0)), 0);
        due("errorAt()", x.errorAt(), -2);
        due("node(0)", x.node(0), -1);
        due("expected(0)", x.expected(0), 0);
        due("traits(14)", x.traits(14), 1);
        x.produce(10, 14, -1, -1);
        due("errorAt()", x.errorAt(), -1);
        due("node(0)", x.node(0), 40001);
        due("expected(0)", x.expected(0), 1);
        due("traits(14)", x.traits(14), 5);
        due("traits(13)", x.traits(13), 1);
    }

    private static void rightSides() {
        ChartParser x = parser(rules(r(10), r(11, 0), r(12, 0, 1), r(13, 0, 1, 2)), 0, 1, 2, 3);
        for (int j = 0; j <= 4; j++) {
            due("derives(10, 0, " + j + ")", x.derives(10, 0, j), j == 0);
            due("derives(11, 0, " + j + ")", x.derives(11, 0, j), j == 1);
            due("derives(12, 0, " + j + ")", x.derives(12, 0, j), j == 2);
            due("derives(13, 0, " + j + ")", x.derives(13, 0, j), j == 3);
            due("distance(10, 0, " + j + ")", x.distance(10, 0, j), j);
            due("distance(13, 0, " + j + ")", x.distance(13, 0, j), j < 3 ? 3 - j : j - 3);
        }
    }

    private static void atMostTwelve() {
        ChartParser x = new ChartParser();
        for (int p = 0; p < 12; p++) {
            due("produce number " + p, x.produce(10, -1, -1, -1), p);
            due("action(" + p + ", 1, 0)", x.action(p, 1, 0), true);
            due("action(" + (p + 1) + ", 1, 0)", x.action(p + 1, 1, 0), false);
        }
        due("thirteenth produce", x.produce(10, -1, -1, -1), -2);
        due("trees(10, 0, 0)", x.trees(10, 0, 0), 12);
        due("action(12, 1, 0)", x.action(12, 1, 0), false);
        for (int p = 11; p >= 0; p--) {
            due("retract() of " + (p + 1), x.retract(), true);
        }
        due("thirteenth retract()", x.retract(), false);
    }

    private static void numbered() {
        ChartParser x = new ChartParser();
        for (int p = 0; p < 12; p++) {
            due("produce number " + p, x.produce(10, p % 6, 10 + p % 5, -1), p);
        }
        x.retract();
        x.retract();
        due("produce(11, 0, -1, -1)", x.produce(11, 0, -1, -1), 10);
        due("produce(10, 5, 11, 5)", x.produce(10, 5, 11, 5), 11);
        write(x, 5, 0, 5);
        due("node(0)", x.node(0), 110003);
        due("node(1)", x.node(1), 100102);
    }

    private static void severalTimes() {
        ChartParser x = new ChartParser();
        for (int p = 0; p < 12; p++) {
            due("produce(10, 0, -1, -1)", x.produce(10, 0, -1, -1), p);
            x.action(p, 0, 100 + p);
        }
        x.insert(0, 0);
        due("trees(10, 0, 1)", x.trees(10, 0, 1), 12);
        due("value(10, 0, 1)", x.value(10, 0, 1), 100);
        due("node(0)", x.node(0), 1);
    }

    private static void atMostTenTokens() {
        ChartParser x = parser(rules(r(10, 10, 10), r(10, 0), r(10, 1), r(10, 2), r(10, 3), r(10, 4)));
        x.action(0, 4, 0);
        for (int k = 0; k < 10; k++) {
            due("insert(" + k + ", " + k % 5 + ")", x.insert(k, k % 5), true);
        }
        for (int at = 0; at <= 11; at++) {
            due("eleventh insert(" + at + ", 5)", x.insert(at, 5), false);
        }
        for (int k = 0; k < 10; k++) {
            due("value(10, " + k + ", " + (k + 1) + ")", x.value(10, k, k + 1), k % 5);
        }
        due("errorAt()", x.errorAt(), -1);
        due("set(9, 0)", x.set(9, 0), true);
        due("set(10, 0)", x.set(10, 0), false);
        due("erase(10)", x.erase(10), false);
        due("expected(11)", x.expected(11), -1);
        due("erase(0)", x.erase(0), true);
        due("insert(9, 1) after that", x.insert(9, 1), true);
        due("insert(10, 1) again", x.insert(10, 1), false);
        due("value(10, 8, 10)", x.value(10, 8, 10), 1);
    }

    private static void places() {
        for (int size : new int[] {0, 1, 9, 10}) {
            ChartParser x = parser(rules(r(10, 0, 10), r(10)), times(size, 0));
            due("expected(0)", x.expected(0), 65);
            due("expected(" + size + ")", x.expected(size), 65);
            due("derives(10, 0, " + size + ")", x.derives(10, 0, size), true);
            due("derives(10, " + size + ", " + size + ")", x.derives(10, size, size), true);
            due("longest(10, " + size + ")", x.longest(10, size), size);
            for (int at : new int[] {LOW, -1, size + 1, size + 2, HIGH}) {
                due("expected(" + at + ")", x.expected(at), -1);
                due("longest(10, " + at + ")", x.longest(10, at), -1);
                outside(x, 10, at, at);
                outside(x, 10, at, size);
                outside(x, 10, 0, at);
                due("insert(" + at + ", 0)", x.insert(at, 0), false);
            }
            if (size < 10) {
                due("insert(" + size + ", 5)", x.insert(size, 5), true);
                due("longest(10, 0)", x.longest(10, 0), size);
            }
        }
    }

    private static void beforeToken() {
        ChartParser x = parser(rules(r(10, 0), r(11, 1), r(12, 2)), 0, 2);
        due("insert(1, 1)", x.insert(1, 1), true);
        due("derives(10, 0, 1)", x.derives(10, 0, 1), true);
        due("derives(11, 1, 2)", x.derives(11, 1, 2), true);
        due("derives(12, 2, 3)", x.derives(12, 2, 3), true);
        due("insert(0, 2)", x.insert(0, 2), true);
        due("derives(12, 0, 1)", x.derives(12, 0, 1), true);
        due("insert(4, 0)", x.insert(4, 0), true);
        due("derives(10, 4, 5)", x.derives(10, 4, 5), true);
    }

    // ---- trees ----

    private static void fromPlaceToPlace() {
        ChartParser x = parser(rules(r(10, 0, 10), r(10)), times(10, 0));
        for (int i = 0; i <= 10; i++) {
            due("derives(10, " + i + ", " + i + ")", x.derives(10, i, i), true);
            for (int j = 0; j < i; j++) {
                outside(x, 10, i, j);
            }
        }
    }

    private static void emptyParts() {
        ChartParser x = parser(rules(r(10, 11, 12, 13), r(11), r(11, 0), r(12), r(12, 1), r(13), r(13, 2)));
        int[][] texts = {r(), r(0), r(1), r(2), r(0, 1), r(0, 2), r(1, 2), r(0, 1, 2)};
        for (int[] text : texts) {
            write(x, text);
            due("trees(10, 0, " + text.length + ")", x.trees(10, 0, text.length), 1);
            due("errorAt()", x.errorAt(), -1);
        }
        write(x);
        int[] nodes = {0, 10000, 30000, 50000, -1};
        for (int k = 0; k < nodes.length; k++) {
            due("node(" + k + ")", x.node(k), nodes[k]);
        }
        write(x, 1, 0);
        due("trees(10, 0, 2)", x.trees(10, 0, 2), 0);
        write(x, 1, 1);
        due("trees(10, 0, 2)", x.trees(10, 0, 2), 0);
    }

    private static void oneToken() {
        ChartParser x = parser(rules(r(10, 3), r(11, 3, 3)), 3, 3, 3, 4);
        due("derives(10, 0, 0)", x.derives(10, 0, 0), false);
        due("derives(10, 0, 1)", x.derives(10, 0, 1), true);
        due("derives(10, 2, 3)", x.derives(10, 2, 3), true);
        due("derives(10, 3, 4)", x.derives(10, 3, 4), false);
        due("derives(10, 0, 2)", x.derives(10, 0, 2), false);
        due("derives(11, 0, 1)", x.derives(11, 0, 1), false);
        due("derives(11, 0, 2)", x.derives(11, 0, 2), true);
        due("derives(11, 0, 3)", x.derives(11, 0, 3), false);
        due("derives(11, 2, 4)", x.derives(11, 2, 4), false);
        due("derives(10, 4, 4)", x.derives(10, 4, 4), false);
    }

    private static void withoutSymbols() {
        ChartParser x = parser(rules(r(10)), times(10, 0));
        for (int i = 0; i <= 10; i++) {
            for (int j = i; j <= 10; j++) {
                due("trees(10, " + i + ", " + j + ")", x.trees(10, i, j), i == j ? 1 : 0);
            }
        }
        due("errorAt()", x.errorAt(), 0);
    }

    private static void sameTrees() {
        // Two numbers of one production, and two divisions of one production, are two trees; one and the same is one.
        ChartParser x = parser(rules(r(10, 11, 11), r(11), r(11, 0)), 0);
        due("trees(10, 0, 1) by two divisions", x.trees(10, 0, 1), 2);
        due("trees(10, 0, 0)", x.trees(10, 0, 0), 1);
        x.produce(11, -1, -1, -1);
        due("trees(10, 0, 1) with an empty one twice", x.trees(10, 0, 1), 4);
        due("trees(10, 0, 0) with an empty one twice", x.trees(10, 0, 0), 4);
        x.produce(10, 11, 11, -1);
        due("trees(10, 0, 1) with all of it twice", x.trees(10, 0, 1), 8);
        due("trees(10, 0, 1) of one three times", parser(rules(r(10, 0), r(10, 0), r(10, 0)), 0).trees(10, 0, 1), 3);
    }

    private static void lowestHeight() {
        ChartParser x = parser(rules(r(10), r(11, 0), r(12, 0, 0, 0), r(13, 10), r(14, 0, 13, 12)), 0, 0, 0, 0);
        due("height(10, 0, 0)", x.height(10, 0, 0), 1);
        due("height(11, 0, 1)", x.height(11, 0, 1), 1);
        due("height(12, 0, 3)", x.height(12, 0, 3), 1);
        due("height(13, 0, 0)", x.height(13, 0, 0), 2);
        due("height(14, 0, 4)", x.height(14, 0, 4), 3);
        due("height(14, 0, 3)", x.height(14, 0, 3), 0);
    }

    private static void greatestHeight() {
        // Five nonterminals in each other for each of ten tokens.
        ChartParser x = parser(rules(r(10, 11), r(11, 12), r(12, 13), r(13, 14), r(14, 0, 10), r(14, 0)), times(10, 0));
        due("height(10, 0, 10)", x.height(10, 0, 10), 50);
        due("height(14, 9, 10)", x.height(14, 9, 10), 1);
        due("node(49)", x.node(49), 50910);
        due("node(50)", x.node(50), -1);
    }

    // ---- nonterminals and texts ----

    private static int[][] powersOfThree() {
        return rules(r(10, 11, 11, 11), r(11, 12, 12, 12), r(12, 13, 13, 13), r(13, 14, 14, 14), r(14, 0, 0, 0));
    }

    private static void productive() {
        ChartParser x = parser(powersOfThree());
        for (int n = 10; n <= 14; n++) {
            due("traits(" + n + ") with a text of more than ten tokens", x.traits(n), 5);
        }
        x.retract();
        for (int n = 10; n <= 14; n++) {
            due("traits(" + n + ") of what never ends", x.traits(n), 0);
            due("distance(" + n + ", 0, 0) of what never ends", x.distance(n, 0, 0), -1);
        }
        x.produce(14, -1, -1, -1);
        due("traits(10) with the empty text alone", x.traits(10), 7);
        ChartParser y = parser(rules(r(10, 10), r(11, 12), r(12, 11), r(13, 13, 14), r(14, 0)));
        due("traits(10) in a ring", y.traits(10), 0);
        due("traits(11) in a ring", y.traits(11), 0);
        due("traits(13) beside itself", y.traits(13), 0);
        due("traits(14)", y.traits(14), 1);
    }

    private static void anyLength() {
        ChartParser x = parser(powersOfThree(), times(10, 0));
        due("errorAt() of the first 10 tokens of 243", x.errorAt(), 10);
        for (int k = 0; k <= 10; k++) {
            due("expected(" + k + ")", x.expected(k), 1);
        }
        due("distance(10, 0, 10)", x.distance(10, 0, 10), 233);
        write(x);
        due("errorAt() of the empty text", x.errorAt(), 0);
        ChartParser y = parser(rules(r(10)));
        due("errorAt() where the empty text is a sentence", y.errorAt(), -1);
        due("expected(0)", y.expected(0), 64);
    }

    private static void beginning() {
        ChartParser x = parser(rules(r(10, 0, 1, 2)));
        int[][] texts = {r(), r(0), r(0, 1), r(0, 1, 2)};
        int[] follow = {1, 2, 4, 64};
        for (int k = 0; k < texts.length; k++) {
            write(x, texts[k]);
            due("expected(" + k + ")", x.expected(k), follow[k]);
            due("errorAt() of " + k + " tokens", x.errorAt(), k == 3 ? -1 : k);
        }
        x.insert(3, 2);
        due("expected(4) behind the only sentence", x.expected(4), 0);
        due("errorAt() behind the only sentence", x.errorAt(), 3);
        x.retract();
        due("expected(0) where there are no sentences", x.expected(0), 0);
    }

    // ---- the chosen tree ----

    private static void leastHeight() {
        ChartParser x = parser(rules(r(10, 11), r(11, 0), r(10, 11, 12), r(12), r(10, 0)), 0);
        due("node(0): the last one is the lowest", x.node(0), 40001);
        x.retract();
        due("node(0): the first one is as low as the other", x.node(0), 1);
        due("node(1)", x.node(1), 10001);
        due("node(2)", x.node(2), -1);
        ChartParser y = parser(rules(r(11, 0), r(10, 11), r(10, 0)), 0);
        due("node(0): the last one, though the one before it could be made first", y.node(0), 20001);
        due("node(1)", y.node(1), -1);
    }

    private static void leastNumber() {
        // The second production's first part would be longer.
        ChartParser x = parser(rules(r(11, 0), r(12, 0, 0), r(10, 11, 12), r(10, 12, 11)), 0, 0, 0);
        due("node(0)", x.node(0), 20003);
        due("node(1)", x.node(1), 1);
        due("node(2)", x.node(2), 10103);
        ChartParser y = parser(rules(r(11, 0), r(12, 0, 0), r(10, 12, 11), r(10, 11, 12)), 0, 0, 0);
        due("node(0) the other way about", y.node(0), 20003);
        due("node(1) the other way about", y.node(1), 10002);
    }

    private static void longestFirstPart() {
        ChartParser x = parser(rules(r(10, 11, 11), r(11), r(11, 0), r(11, 0, 0), r(11, 0, 0, 0)), 0, 0, 0);
        due("node(1): three tokens", x.node(1), 40003);
        due("node(2): none", x.node(2), 10303);
        x.retract();
        due("node(1): two tokens", x.node(1), 30002);
        due("node(2): one token", x.node(2), 20203);
        // All of it in the first part would make the tree higher than the least.
        ChartParser y = parser(rules(r(10, 11, 11), r(11, 11, 0), r(11), r(11, 0)), 0, 0);
        due("height(10, 0, 2)", y.height(10, 0, 2), 2);
        due("node(1)", y.node(1), 30001);
        due("node(2)", y.node(2), 30102);
    }

    private static void longestSecondPart() {
        ChartParser x = parser(rules(r(10, 3, 11, 11), r(11), r(11, 0), r(11, 0, 0), r(11, 0, 0, 0)), 3, 0, 0, 0);
        due("node(1): three tokens", x.node(1), 40104);
        due("node(2): none", x.node(2), 10404);
        x.retract();
        due("node(1): two tokens", x.node(1), 30103);
        due("node(2): one token", x.node(2), 20304);
        // The first part goes before the second.
        ChartParser y = parser(rules(r(10, 11, 11, 11), r(11), r(11, 0), r(11, 0, 0)), 0, 0, 0);
        due("node(1)", y.node(1), 30002);
        due("node(2)", y.node(2), 20203);
        due("node(3)", y.node(3), 10303);
    }

    private static void chosenWithin() {
        // Of 11's trees the lowest is chosen, and of those the one with the least number, though 10 could have a higher one.
        ChartParser x = parser(rules(r(10, 11, 12), r(12, 13), r(13, 14), r(14, 1), r(11, 13), r(13, 0), r(11, 0), r(11, 0)), 0, 1);
        int[] nodes = {2, 60001, 10102, 20102, 30102, -1};
        for (int k = 0; k < nodes.length; k++) {
            due("node(" + k + ")", x.node(k), nodes[k]);
        }
        due("height(10, 0, 2)", x.height(10, 0, 2), 4);
    }

    private static void endlessChoice() {
        // Endlessly many trees, also over empty parts: the chosen one is still one of the least height.
        ChartParser x = parser(rules(r(10, 10, 10, 10), r(10, 10), r(10), r(10, 0)), 0);
        due("node(0)", x.node(0), 30001);
        due("node(1)", x.node(1), -1);
        x.erase(0);
        due("node(0) of the empty text", x.node(0), 20000);
        due("node(1) of the empty text", x.node(1), -1);
    }

    private static void nodes() {
        ChartParser x = parser(rules(r(10, 11, 1, 12), r(11, 13, 14), r(12, 14, 13), r(13, 0), r(14, 2)), 0, 2, 1, 2, 0);
        int[] due = {5, 10002, 30001, 40102, 20305, 40304, 30405, -1};
        for (int k = 0; k < due.length; k++) {
            due("node(" + k + ")", x.node(k), due[k]);
        }
    }

    // ---- actions ----

    private static final long MAX = 9223372036854775807L;

    /** The value that op and c make of the values of some terminals. */
    private static long made(int op, int c, int... terminals) {
        int[] rule = new int[terminals.length + 1];
        rule[0] = 10;
        System.arraycopy(terminals, 0, rule, 1, terminals.length);
        ChartParser x = parser(rules(rule), terminals);
        x.action(0, op, c);
        return x.value(10, 0, terminals.length);
    }

    /**
     * An object in which 11 has the value first over 0 2 2 1, and 12 the value second over 0 0 1 2 2 1. Constants are ints,
     * so a long is made of four pieces: one times 2^32, two beside it, and the 1 at the end.
     */
    private static ChartParser longs(int[] rule, long first, long second) {
        ChartParser x = parser(rules(rule, r(11, 13, 1), r(12, 13, 1), r(13, 0, 13), r(13, 0, 0, 13), r(13, 14, 14), r(13, 1, 14, 14), r(14, 2)));
        x.action(7, 0, 65536);
        givePieces(x, 5, 3, 1, first);
        givePieces(x, 6, 4, 2, second);
        write(x, 0, 2, 2, 1, 0, 0, 1, 2, 2, 1);
        due("value(11, 0, 4), one of the two", x.value(11, 0, 4), first);
        due("value(12, 4, 10), the other of the two", x.value(12, 4, 10), second);
        return x;
    }

    private static void givePieces(ChartParser x, int times, int inner, int outer, long wanted) {
        // 2^32 times the least int would be no value.
        long high = Math.max(wanted >> 32, LOW + 1L);
        long rest = wanted - (high << 32) - 1;
        x.action(times, 2, (int) high);
        x.action(inner, 1, (int) (rest >> 1));
        x.action(outer, 1, (int) (rest - (rest >> 1)));
    }

    private static long madeOfLongs(int op, int c, long first, long second) {
        ChartParser x = longs(r(10, 11, 12), first, second);
        x.action(0, op, c);
        return x.value(10, 0, 10);
    }

    private static long madeOfLong(int op, int c, long only) {
        ChartParser x = longs(r(10, 11), only, 0);
        x.action(0, op, c);
        return x.value(10, 0, 4);
    }

    /** The value that op and c make of terminal 5 and of two others that are both the same. */
    private static long madeOfFiveAnd(int op, int c, long both) {
        ChartParser x = longs(r(10, 5, 11, 11), both, 0);
        x.action(0, op, c);
        write(x, 5, 0, 2, 2, 1, 0, 2, 2, 1);
        return x.value(10, 0, 9);
    }

    private static void atFirst() {
        due("1 + 2 + 3", parser(rules(r(10, 1, 2, 3)), 1, 2, 3).value(10, 0, 3), 6);
        due("no symbols", parser(rules(r(10))).value(10, 0, 0), 0);
        ChartParser x = parser(rules(r(10, 5)), 5);
        x.action(0, 2, 7);
        due("5 * 7", x.value(10, 0, 1), 35);
        x.retract();
        x.produce(10, 5, -1, -1);
        due("a new one with the number of one taken away", x.value(10, 0, 1), 5);
    }

    private static void ofTerminals() {
        for (int t = 0; t <= 5; t++) {
            due("op 1 of terminal " + t, made(1, 0, t), t);
        }
        ChartParser x = parser(rules(r(10, 11), r(11, 5)), 5);
        x.action(1, 0, -9);
        due("of a nonterminal that of its tree", x.value(10, 0, 1), -9);
    }

    private static void wrapping() {
        due("op 1: MAX + 2", madeOfLongs(1, 0, MAX, 2), NONE + 1);
        due("op 1: 5 + MAX + 5", madeOfLongs(1, 5, MAX, 5), NONE + 9);
        due("op 1: MIN + 1 - 2", madeOfLongs(1, 0, NONE + 1, -2), MAX);
        due("op 1: c below it", madeOfLong(1, LOW, NONE + 1), MAX - 2147483646L);
        due("op 1: 5 + MAX + MAX", madeOfFiveAnd(1, 0, MAX), 3);
        due("op 2: 2^62 * 4", madeOfLongs(2, 1, 1L << 62, 4), 0);
        due("op 2: 2 * MAX", madeOfLong(2, 2, MAX), -2);
        due("op 2: MAX * MAX", madeOfLongs(2, 1, MAX, MAX), 1);
        due("op 3: MIN + 1 - 2", madeOfLongs(3, 0, NONE + 1, 2), MAX);
        due("op 3: MAX - (-9)", madeOfLong(3, -9, MAX), NONE + 8);
        due("op 3: 5 - MAX - MAX", madeOfFiveAnd(3, 0, MAX), 7);
        due("op 4: 10 * MAX + 5", madeOfLongs(4, 0, MAX, 5), -5);
        due("op 4: c at the front", madeOfLongs(4, HIGH, 0L, MAX), 214748364700L + MAX);
        due("op 6: 5 by MAX + MAX + 1", madeOfFiveAnd(6, 1, MAX), -5);
        due("op 6: 5 by MAX + MAX + 4", madeOfFiveAnd(6, 4, MAX), 2);
    }

    private static void opZero() {
        due("of none", made(0, 7), 7);
        due("the least c", made(0, LOW, 1, 2, 3), LOW);
        due("the greatest c", made(0, HIGH, 5), HIGH);
        due("of great ones", madeOfLongs(0, -1, MAX, MAX), -1);
    }

    private static void opOne() {
        due("of none", made(1, 7), 7);
        due("of none, the least c", made(1, LOW), LOW);
        due("of one", made(1, 7, 5), 12);
        due("of three", made(1, -7, 1, 2, 3), -1);
        due("beyond the ints", made(1, HIGH, 5), 2147483652L);
        due("up to MAX", madeOfLong(1, 1, MAX - 1), MAX);
    }

    private static void opTwo() {
        due("of none", made(2, 7), 7);
        due("of none, the least c", made(2, LOW), LOW);
        due("c being 0", made(2, 0, 5, 5, 5), 0);
        due("one of them 0", made(2, 7, 5, 0, 5), 0);
        due("of three", made(2, -7, 1, 2, 3), -42);
        due("beyond the ints", made(2, HIGH, 5, 5, 5), 268435455875L);
    }

    private static void opThree() {
        due("of none", made(3, 7), -7);
        due("of none, the least c", made(3, LOW), 2147483648L);
        due("of none, c being 0", made(3, 0), 0);
        due("of one", made(3, 7, 5), -2);
        due("of two", made(3, 7, 5, 1), -3);
        due("of three", made(3, -7, 5, 1, 4), 7);
        due("of one, the least c", made(3, LOW, 5), 2147483653L);
    }

    private static void opFour() {
        due("of none", made(4, 7), 7);
        due("of none, the least c", made(4, LOW), LOW);
        due("of three", made(4, 7, 1, 2, 3), 7123);
        due("c below 0", made(4, -1, 3, 4), -66);
        due("beyond the ints", made(4, HIGH, 1), 21474836471L);
    }

    private static void opFive() {
        due("of none", made(5, -7), -7);
        due("c the greatest", made(5, 6, 1, 5, 3), 6);
        due("the first the greatest", made(5, 2, 5, 4, 3), 5);
        due("the second the greatest", made(5, 2, 4, 5, 3), 5);
        due("the last the greatest", made(5, 2, 3, 4, 5), 5);
        due("the same", made(5, 3, 3, 3), 3);
        due("all below 0", madeOfLongs(5, -9, -8L, -7L), -7);
        due("the least ones", madeOfLongs(5, LOW, NONE + 1, NONE + 2), LOW);
        due("the greatest one", madeOfLongs(5, HIGH, 0L, MAX), MAX);
    }

    private static void opSix() {
        due("of none", made(6, 7), 7);
        due("of none, the least c", made(6, LOW), LOW);
        due("of one", made(6, 2, 5), 2);
        due("of three", made(6, -1, 5, 2, 1), 2);
        due("an answer of 0", made(6, 9, 5), 0);
        due("0 divided", made(6, 9, 0), 0);
        due("MAX by -1", madeOfLong(6, -1, MAX), NONE + 1);
        due("MIN + 1 by -1", madeOfLong(6, -1, NONE + 1), MAX);
        due("by MIN", madeOfLongs(6, 1, 5L, MAX), 0);
    }

    private static void rounded() {
        due("7 by 2", madeOfLong(6, 2, 7L), 3);
        due("-7 by 2", madeOfLong(6, 2, -7L), -3);
        due("7 by -2", madeOfLong(6, -2, 7L), -3);
        due("-7 by -2", madeOfLong(6, -2, -7L), 3);
        due("-1 by 2", madeOfLong(6, 2, -1L), 0);
        due("MIN + 1 by 2", madeOfLong(6, 2, NONE + 1), NONE / 2 + 1);
    }

    private static void dividedByZero() {
        due("c being 0", made(6, 0, 5), NONE);
        due("0 by 0", made(6, 0, 0), NONE);
        due("c and another", made(6, -3, 5, 3), NONE);
        due("c and two others", made(6, -5, 5, 3, 2), NONE);
        due("c and two others that wrap", madeOfFiveAnd(6, 2, MAX), NONE);
        due("c being 0, of none", made(6, 0), 0);
    }

    private static void opSeven() {
        due("of none", made(7, 7), 7);
        due("of none, the least c", made(7, LOW), LOW);
        due("greater", made(7, 1, 2, 5, 4), 4);
        due("greater, of two", made(7, 1, 2, 5), 5);
        due("greater, of one", made(7, 1, 2), 2);
        due("the same", made(7, 2, 2, 5, 4), 2);
        due("less", made(7, 3, 2, 5, 4), 2);
        due("less, of one", made(7, 3, 2), 2);
        due("greater beyond the ints", madeOfLongs(7, HIGH, 1L << 32, 1), 1);
        due("less beyond the ints", madeOfLongs(7, LOW, -1L << 32, 1), -1L << 32);
        due("the greatest", madeOfLongs(7, HIGH, MAX, NONE + 1), NONE + 1);
    }

    private static void noValueWithin() {
        for (int op = 0; op <= 7; op++) {
            ChartParser x = parser(rules(r(10, 1, 11, 1), r(11, 0), r(12, 11, 1), r(13, 1, 11), r(14, 10)), 1, 0, 1);
            x.action(1, 6, 0);
            for (int p = 0; p < 5; p++) {
                if (p != 1) {
                    x.action(p, op, 3);
                }
            }
            due("op " + op + ": value(11, 1, 2)", x.value(11, 1, 2), NONE);
            due("op " + op + ", as the second of three", x.value(10, 0, 3), NONE);
            due("op " + op + ", as the first", x.value(12, 1, 3), NONE);
            due("op " + op + ", as the last", x.value(13, 0, 2), NONE);
            due("op " + op + ", two trees outside", x.value(14, 0, 3), NONE);
            due("node(0) is there none the less", x.node(0), 3);
            x.action(1, 6, 1);
            due("op " + op + ": value(11, 1, 2) again", x.value(11, 1, 2), 0);
            if (op == 0) {
                due("op 0 with a value within", x.value(10, 0, 3), 3);
            }
        }
    }

    private static void leastLong() {
        due("op 1: MAX + 1", madeOfLong(1, 1, MAX), NONE);
        due("op 1: MIN + 1 - 1", madeOfLongs(1, 0, NONE + 1, -1), NONE);
        due("op 2: -2 * 2^62", madeOfLong(2, -2, 1L << 62), NONE);
        due("op 2: 2 * 2^62", madeOfLong(2, 2, 1L << 62), NONE);
        due("op 3: MAX + 1", madeOfLong(3, -1, MAX), NONE);
        due("op 3: MIN + 1 - 1", madeOfLongs(3, 0, NONE + 1, 1), NONE);
        due("op 4: ten times and 8 less", madeOfLongs(4, 0, NONE / 10, -8), NONE);
        due("op 4: ten times and 7 less", madeOfLongs(4, 0, NONE / 10, -7), NONE + 1);
        ChartParser x = longs(r(10, 11), MAX, 0);
        x.produce(10, 3, 10, -1);
        x.action(0, 1, 1);
        x.action(8, 0, 4);
        write(x, 3, 0, 2, 2, 1);
        due("op 0 of such a result", x.value(10, 0, 5), NONE);
        x.action(0, 1, 2);
        due("one above it", x.value(10, 1, 5), NONE + 1);
        due("op 0 of one above it", x.value(10, 0, 5), 4);
        // On the way to a result it is a number as any other.
        due("op 1: 1 + MAX + 1", madeOfLongs(1, 1, MAX, 1), NONE + 1);
        due("op 3: MAX - (-1) - 1", madeOfLongs(3, -1, MAX, 1), MAX);
    }

    // ---- the distance ----

    private static void steps() {
        due("one taken out at the beginning", parser(rules(r(10, 0, 1)), 2, 0, 1).distance(10, 0, 3), 1);
        due("one taken out in the middle", parser(rules(r(10, 0, 1)), 0, 2, 1).distance(10, 0, 3), 1);
        due("one taken out at the end", parser(rules(r(10, 0, 1)), 0, 1, 1).distance(10, 0, 3), 1);
        due("one put in at the beginning", parser(rules(r(10, 2, 0, 1)), 0, 1).distance(10, 0, 2), 1);
        due("one put in in the middle", parser(rules(r(10, 0, 2, 1)), 0, 1).distance(10, 0, 2), 1);
        due("one put in at the end", parser(rules(r(10, 0, 1, 1)), 0, 1).distance(10, 0, 2), 1);
        due("one made another", parser(rules(r(10, 0, 2, 1)), 0, 1, 1).distance(10, 0, 3), 1);
        due("all made others", parser(rules(r(10, 0, 0, 0)), 1, 1, 1).distance(10, 0, 3), 3);
        due("two that change places", parser(rules(r(10, 0, 1)), 1, 0).distance(10, 0, 2), 2);
    }

    private static void leastSteps() {
        ChartParser x = parser(rules(r(10, 0, 0, 0), r(10, 1, 2)), 0, 1, 1);
        due("the nearer of two texts", x.distance(10, 0, 3), 2);
        due("nothing to the shorter one", x.distance(10, 0, 0), 2);
        due("the nearest division of all", parser(rules(r(10, 0, 1, 2)), 0, 1, 2, 3).distance(10, 0, 4), 1);
        due("a part alone", x.distance(10, 1, 2), 1);
        x.produce(10, 10, 10, -1);
        x.produce(10, -1, -1, -1);
        due("rather nothing than more", x.distance(10, 0, 3), 2);
        due("nothing to nothing", x.distance(10, 3, 3), 0);
        ChartParser y = parser(rules(r(10), r(11, 11, 0), r(11, 0)), times(10, 1));
        due("all ten out", y.distance(10, 0, 10), 10);
        due("all ten made others", y.distance(11, 0, 10), 10);
        due("one put into nothing", y.distance(11, 10, 10), 1);
        ChartParser z = parser(powersOfThree());
        due("243 put into nothing", z.distance(10, 0, 0), 243);
    }

    private static void noSteps() {
        ChartParser x = parser(rules(r(10, 0, 10), r(10), r(11, 0, 0)), times(10, 0));
        for (int i = 0; i <= 10; i++) {
            for (int j = i; j <= 10; j++) {
                int away = j - i < 2 ? 2 - j + i : j - i - 2;
                due("distance(10, " + i + ", " + j + ")", x.distance(10, i, j), 0);
                due("distance(11, " + i + ", " + j + ")", x.distance(11, i, j), away);
            }
        }
    }

    private static void wordsAndText() {
        boundary("TERMINALS are 0 to 5", ChartParserTermsBoundaries::terminals);
        boundary("NONTERMINALS 10 to 14", ChartParserTermsBoundaries::nonterminals);
        boundary("10 is the START", ChartParserTermsBoundaries::start);
        boundary("0 to 3 symbols as its right side", ChartParserTermsBoundaries::rightSides);
        boundary("there are at most 12", ChartParserTermsBoundaries::atMostTwelve);
        boundary("numbered 0, 1, .. in their order", ChartParserTermsBoundaries::numbered);
        boundary("the same one may be there several times", ChartParserTermsBoundaries::severalTimes);
        boundary("a list of at most 10 terminals", ChartParserTermsBoundaries::atMostTenTokens);
        boundary("PLACES in it are 0 to its length", ChartParserTermsBoundaries::places);
        boundary("place i being before token i", ChartParserTermsBoundaries::beforeToken);
        boundary("from place i to j (i <= j)", ChartParserTermsBoundaries::fromPlaceToPlace);
        boundary("consecutive parts, perhaps empty", ChartParserTermsBoundaries::emptyParts);
        boundary("the part of a terminal being that one token", ChartParserTermsBoundaries::oneToken);
        boundary("a production without symbols has only the tree from i to i", ChartParserTermsBoundaries::withoutSymbols);
        boundary("trees are the same if all of that is the same", ChartParserTermsBoundaries::sameTrees);
        boundary("HEIGHT is 1 if there are none", ChartParserTermsBoundaries::lowestHeight);
        boundary("HEIGHT is 1 more than the greatest height", ChartParserTermsBoundaries::greatestHeight);
        boundary("PRODUCTIVE if it has a tree over some text", ChartParserTermsBoundaries::productive);
        boundary("a SENTENCE is a text (of any length)", ChartParserTermsBoundaries::anyLength);
        boundary("a BEGINNING if some sentence begins with it", ChartParserTermsBoundaries::beginning);
    }

    private static void chosenTrees() {
        boundary("THE CHOSEN TREE is one of the least height", ChartParserTermsBoundaries::leastHeight);
        boundary("of these its production has the least number", ChartParserTermsBoundaries::leastNumber);
        boundary("then its first part is the longest", ChartParserTermsBoundaries::longestFirstPart);
        boundary("then its second part", ChartParserTermsBoundaries::longestSecondPart);
        boundary("the trees in it are the chosen ones of their parts", ChartParserTermsBoundaries::chosenWithin);
        boundary("one of the least height, of endlessly many", ChartParserTermsBoundaries::endlessChoice);
        boundary("from the outside in and from left to right, the outermost being number 0", ChartParserTermsBoundaries::nodes);
    }

    private static void actions() {
        boundary("an action op and a constant c (1 and 0 at first)", ChartParserTermsBoundaries::atFirst);
        boundary("of a terminal its number", ChartParserTermsBoundaries::ofTerminals);
        boundary("longs that wrap", ChartParserTermsBoundaries::wrapping);
        boundary("op 0: c", ChartParserTermsBoundaries::opZero);
        boundary("op 1: c plus all of them", ChartParserTermsBoundaries::opOne);
        boundary("op 2: c times all of them", ChartParserTermsBoundaries::opTwo);
        boundary("op 3: -c if there are no symbols", ChartParserTermsBoundaries::opThree);
        boundary("op 4: beginning with c", ChartParserTermsBoundaries::opFour);
        boundary("op 5: the greatest of c and all of them", ChartParserTermsBoundaries::opFive);
        boundary("op 6: c if there are no symbols", ChartParserTermsBoundaries::opSix);
        boundary("op 6: rounded towards zero", ChartParserTermsBoundaries::rounded);
        boundary("op 6: no value if that is 0", ChartParserTermsBoundaries::dividedByZero);
        boundary("op 7: if the first one is greater than c; c if there are no symbols", ChartParserTermsBoundaries::opSeven);
        boundary("a tree in which a tree has no value has none (also with op 0)", ChartParserTermsBoundaries::noValueWithin);
        boundary("a result of -9223372036854775808 counts as no value", ChartParserTermsBoundaries::leastLong);
    }

    private static void distances() {
        boundary("takes one token out, puts one in, or makes one another", ChartParserTermsBoundaries::steps);
        boundary("THE DISTANCE is the least number of steps", ChartParserTermsBoundaries::leastSteps);
        boundary("0 if N derives i to j", ChartParserTermsBoundaries::noSteps);
    }

    public static void main(String[] args) {
        wordsAndText();
        chosenTrees();
        actions();
        distances();
        finish();
    }
}
