/** Answers worked out by hand, promise by promise: ordinary inputs, the edges that the document names, and wrong inputs. */
public final class ChartParserPromises extends Trial {
    private static final int[] WRONG_NONTERMINALS = {LOW, -1, 0, 5, 9, 15, 100, HIGH};

    private static void due(int promise, String call, long got, long want) {
        due("promise " + promise + ": " + call, got, want);
    }

    private static void due(int promise, String call, boolean got, boolean want) {
        due("promise " + promise + ": " + call, got, want);
    }

    private static void newObject() {
        ChartParser x = new ChartParser();
        due(1, "errorAt()", x.errorAt(), -2);
        due(1, "expected(0)", x.expected(0), 0);
        due(1, "expected(1)", x.expected(1), -1);
        due(1, "node(0)", x.node(0), -1);
        for (int n = 10; n <= 14; n++) {
            due(1, "derives(n, 0, 0)", x.derives(n, 0, 0), false);
            due(1, "trees(n, 0, 0)", x.trees(n, 0, 0), 0);
            due(1, "height(n, 0, 0)", x.height(n, 0, 0), 0);
            due(1, "longest(n, 0)", x.longest(n, 0), -1);
            due(1, "value(n, 0, 0)", x.value(n, 0, 0), NONE);
            due(1, "distance(n, 0, 0)", x.distance(n, 0, 0), -1);
            due(1, "traits(n)", x.traits(n), 0);
        }
        due(1, "retract()", x.retract(), false);
        due(1, "erase(0)", x.erase(0), false);
        due(1, "set(0, 0)", x.set(0, 0), false);
        due(1, "action(0, 1, 0)", x.action(0, 1, 0), false);
        ChartParser y = new ChartParser();
        x.produce(10, -1, -1, -1);
        x.insert(0, 3);
        due(1, "another object's errorAt()", y.errorAt(), -2);
        due(1, "another object's erase(0)", y.erase(0), false);
    }

    private static void produce() {
        ChartParser x = new ChartParser();
        for (int left : WRONG_NONTERMINALS) {
            due(2, "produce(" + left + ", 0, -1, -1)", x.produce(left, 0, -1, -1), -1);
        }
        for (int s : new int[] {LOW, -2, 6, 7, 8, 9, 15, HIGH}) {
            due(2, "produce(10, " + s + ", -1, -1)", x.produce(10, s, -1, -1), -1);
            due(2, "produce(10, 0, " + s + ", -1)", x.produce(10, 0, s, -1), -1);
            due(2, "produce(10, 0, 0, " + s + ")", x.produce(10, 0, 0, s), -1);
        }
        due(2, "produce(10, -1, 0, -1)", x.produce(10, -1, 0, -1), -1);
        due(2, "produce(10, -1, -1, 0)", x.produce(10, -1, -1, 0), -1);
        due(2, "produce(10, 0, -1, 0)", x.produce(10, 0, -1, 0), -1);
        due(2, "produce(10, -1, 10, 10)", x.produce(10, -1, 10, 10), -1);
        due(2, "retract() after refusals", x.retract(), false);
        int[] symbols = {-1, 0, 5, 10, 14};
        int number = 0;
        for (int s : symbols) {
            due(2, "produce(14, " + s + ", -1, -1)", x.produce(14, s, -1, -1), number);
            number++;
        }
        due(2, "produce(11, 10, 0, -1)", x.produce(11, 10, 0, -1), 5);
        due(2, "produce(12, 10, 0, 14)", x.produce(12, 10, 0, 14), 6);
        for (number = 7; number < 12; number++) {
            due(2, "produce(12, 10, 0, 14) again", x.produce(12, 10, 0, 14), number);
        }
        due(2, "thirteenth produce", x.produce(10, 0, -1, -1), -2);
        due(2, "thirteenth produce, left wrong", x.produce(9, 0, -1, -1), -1);
        due(2, "thirteenth produce, right wrong", x.produce(10, 0, -1, 0), -1);
        due(2, "traits(10) after FULL", x.traits(10), 0);
        ChartParser y = parser(rules(r(10, 0), r(10, 0), r(10, 0)), 0);
        due(2, "trees(10, 0, 1) of the same one three times", y.trees(10, 0, 1), 3);
    }

    private static void retract() {
        ChartParser x = parser(rules(r(10, 0), r(10, 1), r(10, 2)), 2);
        due(3, "derives before", x.derives(10, 0, 1), true);
        due(3, "retract()", x.retract(), true);
        due(3, "derives after", x.derives(10, 0, 1), false);
        due(3, "expected(0)", x.expected(0), 3);
        due(3, "distance", x.distance(10, 0, 1), 1);
        due(3, "produce takes the number again", x.produce(10, 3, -1, -1), 2);
        due(3, "expected(0)", x.expected(0), 11);
        due(3, "retract()", x.retract(), true);
        due(3, "retract()", x.retract(), true);
        due(3, "retract()", x.retract(), true);
        due(3, "retract() of none", x.retract(), false);
        due(3, "traits(10)", x.traits(10), 0);
        due(3, "distance", x.distance(10, 0, 1), -1);
        due(3, "produce", x.produce(10, 2, -1, -1), 0);
        due(3, "the text has stayed", x.derives(10, 0, 1), true);
        ChartParser y = new ChartParser();
        for (int k = 0; k < 12; k++) {
            y.produce(10, 0, -1, -1);
        }
        due(3, "retract() of 12", y.retract(), true);
        due(3, "produce after that", y.produce(10, 0, -1, -1), 11);
    }

    private static void action() {
        ChartParser x = parser(rules(r(10, 3)), 3);
        due(4, "value as at first", x.value(10, 0, 1), 3);
        for (int op : new int[] {LOW, -1, 8, HIGH}) {
            due(4, "action(0, " + op + ", 7)", x.action(0, op, 7), false);
        }
        for (int p : new int[] {LOW, -1, 1, 12, HIGH}) {
            due(4, "action(" + p + ", 1, 7)", x.action(p, 1, 7), false);
        }
        due(4, "value after refusals", x.value(10, 0, 1), 3);
        for (int op = 0; op <= 7; op++) {
            due(4, "action(0, " + op + ", 7)", x.action(0, op, 7), true);
        }
        due(4, "action(0, 1, 7)", x.action(0, 1, 7), true);
        due(4, "value", x.value(10, 0, 1), 10);
        x.retract();
        due(4, "action of one taken away", x.action(0, 1, 5), false);
        x.produce(10, 3, -1, -1);
        due(4, "value of a new one with the number of an old one", x.value(10, 0, 1), 3);
    }

    private static void insert() {
        ChartParser x = parser(rules(r(10, 10, 10), r(10, 0), r(10, 1), r(10, 2)));
        x.action(0, 4, 0);
        due(5, "insert(1, 0) into nothing", x.insert(1, 0), false);
        due(5, "insert(-1, 0)", x.insert(-1, 0), false);
        due(5, "insert(0, 1)", x.insert(0, 1), true);
        due(5, "insert(0, 2)", x.insert(0, 2), true);
        due(5, "insert(2, 0)", x.insert(2, 0), true);
        due(5, "insert(1, 5)", x.insert(1, 5), true);
        due(5, "the text is 2 5 1 0", x.derives(10, 1, 2), false);
        due(5, "value(10, 0, 1)", x.value(10, 0, 1), 2);
        due(5, "value(10, 2, 4)", x.value(10, 2, 4), 10);
        for (int at : new int[] {LOW, -1, 5, 10, HIGH}) {
            due(5, "insert(" + at + ", 0)", x.insert(at, 0), false);
        }
        for (int t : new int[] {LOW, -1, 6, 10, HIGH}) {
            due(5, "insert(0, " + t + ")", x.insert(0, t), false);
        }
        for (int k = 4; k < 10; k++) {
            due(5, "insert(" + k + ", 5)", x.insert(k, 5), true);
        }
        due(5, "eleventh insert at the end", x.insert(10, 0), false);
        due(5, "eleventh insert at the beginning", x.insert(0, 0), false);
        due(5, "expected(10)", x.expected(10), 0);
        due(5, "expected(11)", x.expected(11), -1);
        due(5, "value(10, 0, 1)", x.value(10, 0, 1), 2);
    }

    private static void erase() {
        ChartParser x = parser(rules(r(10, 10, 10), r(10, 0), r(10, 1), r(10, 2)), 0, 1, 2);
        x.action(0, 4, 0);
        for (int at : new int[] {LOW, -1, 3, 10, HIGH}) {
            due(6, "erase(" + at + ")", x.erase(at), false);
        }
        due(6, "longest(10, 0)", x.longest(10, 0), 3);
        due(6, "erase(1)", x.erase(1), true);
        due(6, "value(10, 0, 2) of 0 2", x.value(10, 0, 2), 2);
        due(6, "value(10, 0, 1)", x.value(10, 0, 1), 0);
        due(6, "derives(10, 0, 3)", x.derives(10, 0, 3), false);
        due(6, "erase(2)", x.erase(2), false);
        due(6, "erase(0)", x.erase(0), true);
        due(6, "value(10, 0, 1)", x.value(10, 0, 1), 2);
        due(6, "erase(0)", x.erase(0), true);
        due(6, "erase(0) of nothing", x.erase(0), false);
        ChartParser y = parser(rules(r(10, 0)), 0, 0, 0, 0, 0, 0, 0, 0, 0, 0);
        due(6, "erase(9) of ten", y.erase(9), true);
        due(6, "insert after that", y.insert(9, 0), true);
    }

    private static void set() {
        ChartParser x = parser(rules(r(10, 0), r(10, 5)), 1, 1);
        for (int at : new int[] {LOW, -1, 2, HIGH}) {
            due(7, "set(" + at + ", 0)", x.set(at, 0), false);
        }
        for (int t : new int[] {LOW, -1, 6, 10, HIGH}) {
            due(7, "set(0, " + t + ")", x.set(0, t), false);
        }
        due(7, "derives(10, 0, 1)", x.derives(10, 0, 1), false);
        due(7, "set(0, 5)", x.set(0, 5), true);
        due(7, "value(10, 0, 1)", x.value(10, 0, 1), 5);
        due(7, "derives(10, 1, 2)", x.derives(10, 1, 2), false);
        due(7, "set(1, 0)", x.set(1, 0), true);
        due(7, "derives(10, 1, 2)", x.derives(10, 1, 2), true);
        due(7, "set(0, 0)", x.set(0, 0), true);
        due(7, "value(10, 0, 1)", x.value(10, 0, 1), 0);
    }

    private static void derives() {
        ChartParser x = parser(rules(r(10, 0, 10, 1), r(10), r(11, 10, 2)), 0, 0, 1, 1, 2);
        due(8, "derives(10, 0, 4)", x.derives(10, 0, 4), true);
        due(8, "derives(10, 1, 3)", x.derives(10, 1, 3), true);
        due(8, "derives(10, 0, 3)", x.derives(10, 0, 3), false);
        due(8, "derives(10, 0, 5)", x.derives(10, 0, 5), false);
        due(8, "derives(11, 0, 5)", x.derives(11, 0, 5), true);
        due(8, "derives(11, 4, 5)", x.derives(11, 4, 5), true);
        due(8, "derives(11, 4, 4)", x.derives(11, 4, 4), false);
        due(8, "derives(12, 0, 5)", x.derives(12, 0, 5), false);
        for (int i = 0; i <= 5; i++) {
            due(8, "derives(10, i, i)", x.derives(10, i, i), true);
            due(8, "derives(10, 5, i)", x.derives(10, 5, i), i == 5);
        }
        for (int n : WRONG_NONTERMINALS) {
            due(8, "derives(" + n + ", 0, 0)", x.derives(n, 0, 0), false);
        }
        for (int at : new int[] {LOW, -1, 6, 10, 11, HIGH}) {
            due(8, "derives(10, " + at + ", " + at + ")", x.derives(10, at, at), false);
            due(8, "derives(10, 0, " + at + ")", x.derives(10, 0, at), false);
            due(8, "derives(10, " + at + ", 4)", x.derives(10, at, 4), false);
        }
        // Left recursion through a nonterminal that derives the empty text.
        ChartParser y = parser(rules(r(10, 11, 10, 0), r(10, 0), r(11)), 0, 0, 0, 0, 0, 0, 0, 0, 0, 0);
        due(8, "derives(10, 0, 10)", y.derives(10, 0, 10), true);
        due(8, "derives(10, 10, 10)", y.derives(10, 10, 10), false);
    }

    private static void trees() {
        int[] catalan = {1, 1, 2, 5, 14, 42, 132, 429, 1430, 4862};
        ChartParser x = parser(rules(r(10, 10, 10), r(10, 0)), 0, 0, 0, 0, 0, 0, 0, 0, 0, 0);
        for (int j = 1; j <= 10; j++) {
            due(9, "trees(10, 0, " + j + ")", x.trees(10, 0, j), catalan[j - 1]);
        }
        due(9, "trees(10, 0, 0)", x.trees(10, 0, 0), 0);
        int[][] many = new int[12][];
        for (int k = 0; k < 12; k++) {
            many[k] = k < 6 ? r(10, 10, 10) : r(10, 0);
        }
        ChartParser y = parser(many, 0, 0, 0, 0, 0, 0, 0, 0, 0, 0);
        due(9, "trees(10, 0, 3): 2 * 6^5", y.trees(10, 0, 3), 15552);
        due(9, "trees(10, 0, 5): 14 * 6^9", y.trees(10, 0, 5), 141087744);
        due(9, "trees(10, 0, 6): too many", y.trees(10, 0, 6), 1000000000);
        due(9, "trees(10, 0, 10): far too many", y.trees(10, 0, 10), 1000000000);
        int[][] ten = new int[12][];
        ten[0] = r(10, 11, 11, 11);
        ten[1] = r(11, 12, 12, 12);
        for (int k = 2; k < 12; k++) {
            ten[k] = r(12, 0);
        }
        ChartParser z = parser(ten, 0, 0, 0, 0, 0, 0, 0, 0, 0);
        due(9, "trees(10, 0, 9): 10^9", z.trees(10, 0, 9), 1000000000);
        z.retract();
        due(9, "trees(10, 0, 9): 9^9", z.trees(10, 0, 9), 387420489);
        endless();
        ChartParser u = parser(rules(r(10)), 0);
        due(9, "trees(10, 1, 0)", u.trees(10, 1, 0), 0);
        due(9, "trees(10, 2, 2)", u.trees(10, 2, 2), 0);
        due(9, "trees(10, -1, -1)", u.trees(10, -1, -1), 0);
        due(9, "trees(9, 0, 0)", u.trees(9, 0, 0), 0);
        due(9, "trees(15, 0, 0)", u.trees(15, 0, 0), 0);
    }

    private static void endless() {
        ChartParser x = parser(rules(r(10, 11), r(11, 10), r(11, 0), r(12, 10, 1), r(13, 13), r(14, 13, 10), r(14, 0)), 0, 1);
        due(9, "trees round a ring", x.trees(10, 0, 1), -3);
        due(9, "trees round a ring", x.trees(11, 0, 1), -3);
        due(9, "trees with a ring inside", x.trees(12, 0, 2), -3);
        due(9, "trees of a ring without end", x.trees(13, 0, 1), 0);
        due(9, "trees beside a ring without end", x.trees(14, 0, 1), 1);
        due(9, "trees(10, 0, 2)", x.trees(10, 0, 2), 0);
        ChartParser y = parser(rules(r(10, 10, 11), r(10, 0), r(11), r(11, 1)), 0, 1);
        due(9, "trees(10, 0, 1) beside an empty part", y.trees(10, 0, 1), -3);
        due(9, "trees(11, 0, 0)", y.trees(11, 0, 0), 1);
        due(9, "trees(11, 1, 2)", y.trees(11, 1, 2), 1);
        // More than the limit of trees beside endlessly many: endless.
        int[][] many = new int[12][];
        for (int k = 0; k < 12; k++) {
            many[k] = k < 5 ? r(10, 10, 10) : k < 11 ? r(10, 0) : r(10, 10);
        }
        ChartParser z = parser(many, 0, 0, 0, 0, 0, 0, 0, 0, 0, 0);
        due(9, "trees(10, 0, 10)", z.trees(10, 0, 10), -3);
        z.retract();
        due(9, "trees(10, 0, 10)", z.trees(10, 0, 10), 1000000000);
    }

    private static void height() {
        ChartParser x = parser(rules(r(10, 10, 0), r(10, 0), r(11, 10), r(12, 11, 13), r(13)), 0, 0, 0, 0, 0, 0, 0, 0, 0, 0);
        for (int j = 1; j <= 10; j++) {
            due(10, "height(10, 0, " + j + ")", x.height(10, 0, j), j);
        }
        due(10, "height(11, 0, 10)", x.height(11, 0, 10), 11);
        due(10, "height(12, 2, 10)", x.height(12, 2, 10), 10);
        due(10, "height(13, 10, 10)", x.height(13, 10, 10), 1);
        due(10, "height(10, 0, 0)", x.height(10, 0, 0), 0);
        due(10, "height(10, 4, 3)", x.height(10, 4, 3), 0);
        due(10, "height(10, 0, 11)", x.height(10, 0, 11), 0);
        due(10, "height(10, -1, 3)", x.height(10, -1, 3), 0);
        due(10, "height(0, 0, 1)", x.height(0, 0, 1), 0);
        ChartParser y = parser(rules(r(10, 11), r(11, 12), r(12, 13), r(13, 14), r(14, 0), r(11, 10), r(10, 14, 14)), 0, 0);
        due(10, "height of a chain", y.height(10, 0, 1), 5);
        due(10, "height of two", y.height(10, 0, 2), 2);
        y.produce(10, 0, -1, -1);
        due(10, "height after a shorter way", y.height(10, 0, 1), 1);
        due(10, "height(11, 0, 1) by way of 10", y.height(11, 0, 1), 2);
    }

    private static void longest() {
        ChartParser x = parser(rules(r(10, 0, 10, 1), r(10, 0, 1), r(11), r(12, 0)), 0, 0, 1, 1, 0, 1);
        due(11, "longest(10, 0)", x.longest(10, 0), 4);
        due(11, "longest(10, 1)", x.longest(10, 1), 3);
        due(11, "longest(10, 2)", x.longest(10, 2), -1);
        due(11, "longest(10, 4)", x.longest(10, 4), 6);
        due(11, "longest(10, 6)", x.longest(10, 6), -1);
        due(11, "longest(11, 3)", x.longest(11, 3), 3);
        due(11, "longest(11, 6)", x.longest(11, 6), 6);
        due(11, "longest(12, 5)", x.longest(12, 5), -1);
        due(11, "longest(13, 0)", x.longest(13, 0), -1);
        for (int i : new int[] {LOW, -1, 7, 10, 11, HIGH}) {
            due(11, "longest(11, " + i + ")", x.longest(11, i), -1);
        }
        for (int n : WRONG_NONTERMINALS) {
            due(11, "longest(" + n + ", 0)", x.longest(n, 0), -1);
        }
        ChartParser y = parser(rules(r(10, 0, 10), r(10)), 0, 0, 1);
        due(11, "longest of several", y.longest(10, 0), 2);
    }

    /** The value that op and c make of the values of some terminals. */
    private static long made(int op, int c, int... terminals) {
        int[] rule = new int[terminals.length + 1];
        rule[0] = 10;
        System.arraycopy(terminals, 0, rule, 1, terminals.length);
        ChartParser x = parser(rules(rule), terminals);
        x.action(0, op, c);
        return x.value(10, 0, terminals.length);
    }

    private static void actions() {
        long low = LOW;
        due(12, "op 0", made(0, 7, 1, 2, 3), 7);
        due(12, "op 0 of none", made(0, -7), -7);
        due(12, "op 1", made(1, 7, 1, 2, 3), 13);
        due(12, "op 1 of none", made(1, LOW), low);
        due(12, "op 2", made(2, -7, 1, 2, 3), -42);
        due(12, "op 2 of none", made(2, 7), 7);
        due(12, "op 3 of one", made(3, 7, 5), -2);
        due(12, "op 3 of two", made(3, 7, 5, 1), -3);
        due(12, "op 3 of three", made(3, -7, 5, 1, 4), 7);
        due(12, "op 3 of none", made(3, 7), -7);
        due(12, "op 3 of none, least c", made(3, LOW), 2147483648L);
        due(12, "op 4", made(4, 7, 1, 2, 3), 7123);
        due(12, "op 4 of none", made(4, 7), 7);
        due(12, "op 4, below zero", made(4, -1, 3), -7);
        due(12, "op 5, c the greatest", made(5, 7, 1, 2, 3), 7);
        due(12, "op 5, the middle one", made(5, 2, 1, 5, 3), 5);
        due(12, "op 5 of none", made(5, -7), -7);
        due(12, "op 6 of one", made(6, 2, 5), 2);
        due(12, "op 6 of one, below zero", made(6, -2, 5), -2);
        due(12, "op 6 of three", made(6, -1, 5, 2, 1), 2);
        due(12, "op 6, 0 for an answer", made(6, 9, 5), 0);
        due(12, "op 6 by 0", made(6, 0, 5), NONE);
        due(12, "op 6 by 0 of two", made(6, -3, 5, 3), NONE);
        due(12, "op 6 of none", made(6, 7), 7);
        due(12, "op 6 of none, c being 0", made(6, 0), 0);
        due(12, "op 7, greater", made(7, 1, 2, 5, 4), 4);
        due(12, "op 7, the same", made(7, 2, 2, 5, 4), 2);
        due(12, "op 7, less", made(7, 3, 2, 4), 2);
        due(12, "op 7 of one", made(7, 0, 3), 3);
        due(12, "op 7 of none", made(7, 7), 7);
    }

    private static void values() {
        ChartParser x = parser(rules(r(10, 11, 11), r(11, 12, 12), r(12, 0), r(13, 10)), 0, 0, 0, 0);
        x.action(2, 1, HIGH);
        x.action(1, 2, 4);
        long four = 4L * HIGH * HIGH;
        due(12, "value(11, 0, 2)", x.value(11, 0, 2), four);
        due(12, "value(10, 0, 4) wraps", x.value(10, 0, 4), four + four);
        x.action(0, 2, 3);
        due(12, "value(10, 0, 4) wraps", x.value(10, 0, 4), 3 * four * four);
        x.action(2, 1, LOW);
        x.action(1, 2, -2);
        due(12, "value(11, 0, 2): -2^63", x.value(11, 0, 2), NONE);
        x.action(0, 0, 9);
        due(12, "value(10, 0, 4) with op 0 of no value", x.value(10, 0, 4), NONE);
        due(12, "value(13, 0, 4) of no value", x.value(13, 0, 4), NONE);
        due(12, "value(12, 0, 1)", x.value(12, 0, 1), LOW);
        x.action(1, 2, -1);
        due(12, "value(10, 0, 4) with op 0", x.value(10, 0, 4), 9);
        for (int op = 0; op <= 7; op++) {
            ChartParser y = parser(rules(r(10, 11, 1), r(11, 0)), 0, 1);
            y.action(1, 6, 0);
            y.action(0, op, 3);
            due(12, "op " + op + " of no value", y.value(10, 0, 2), NONE);
        }
        ChartParser z = parser(rules(r(10, 0)), 0);
        due(12, "value(10, 0, 0)", z.value(10, 0, 0), NONE);
        due(12, "value(10, 1, 0)", z.value(10, 1, 0), NONE);
        due(12, "value(10, 0, 2)", z.value(10, 0, 2), NONE);
        due(12, "value(9, 0, 1)", z.value(9, 0, 1), NONE);
        due(12, "value(10, -1, 1)", z.value(10, -1, 1), NONE);
        due(12, "value(10, 0, 1)", z.value(10, 0, 1), 0);
    }

    private static void chosenTree() {
        // The lower tree before the lesser number.
        ChartParser x = parser(rules(r(10, 11), r(11, 12), r(12, 0), r(10, 12), r(10, 0), r(10, 0)), 0);
        x.action(0, 0, 100);
        x.action(3, 0, 103);
        x.action(4, 0, 104);
        x.action(5, 0, 105);
        due(12, "the lowest, then the least number", x.value(10, 0, 1), 104);
        due(13, "node(0)", x.node(0), 40001);
        due(13, "node(1)", x.node(1), -1);
        // The first part the longest, then the second: 11 and 12 take any number of tokens at one height.
        ChartParser y = parser(rules(r(10, 11, 11, 11), r(11), r(11, 0), r(11, 0, 0)), 0, 0, 0);
        due(13, "node(0)", y.node(0), 3);
        due(13, "node(1): two tokens", y.node(1), 30002);
        due(13, "node(2): one token", y.node(2), 20203);
        due(13, "node(3): none", y.node(3), 10303);
        due(13, "node(4)", y.node(4), -1);
        // The first part is shorter where the longest makes the tree higher.
        ChartParser z = parser(rules(r(10, 11, 11), r(11, 11, 0), r(11, 0)), 0, 0, 0, 0);
        due(13, "height", z.height(10, 0, 4), 3);
        due(13, "node(0)", z.node(0), 4);
        due(13, "node(1)", z.node(1), 10002);
        due(13, "node(2)", z.node(2), 20001);
        due(13, "node(3)", z.node(3), 10204);
        due(13, "node(4)", z.node(4), 20203);
        due(13, "node(5)", z.node(5), -1);
    }

    private static void node() {
        chosenTree();
        // 10 -> 11 1 12 over 0 0 1 2, with 11 -> 11 13 and 13 -> 14: outside in, and all of the left before the right.
        ChartParser x = parser(rules(r(10, 11, 1, 12), r(11, 13, 13), r(13, 14), r(14, 0), r(12, 2)), 0, 0, 1, 2);
        int[] nodes = {4, 10002, 20001, 30001, 20102, 30102, 40304};
        for (int k = 0; k < nodes.length; k++) {
            due(13, "node(" + k + ")", x.node(k), nodes[k]);
        }
        for (int k : new int[] {LOW, -1, 7, 1000000000, HIGH}) {
            due(13, "node(" + k + ")", x.node(k), -1);
        }
        x.erase(3);
        due(13, "node(0) of no sentence", x.node(0), -1);
        x.insert(3, 2);
        due(13, "node(6) after an edit", x.node(6), 40304);
        ChartParser y = parser(rules(r(11, 0), r(10)), 0);
        due(13, "node(0): another nonterminal derives the text", y.node(0), -1);
        y.erase(0);
        due(13, "node(0) of the empty text", y.node(0), 10000);
        due(13, "node(1) of the empty text", y.node(1), -1);
        // Endlessly many trees, and one chosen.
        ChartParser z = parser(rules(r(10, 10, 10), r(10, 10), r(10), r(10, 0)), 0, 0);
        int[] endless = {2, 30001, 30102};
        for (int k = 0; k < 3; k++) {
            due(13, "node(" + k + ")", z.node(k), endless[k]);
        }
        due(13, "node(3)", z.node(3), -1);
        // The production with the greatest number, over ten tokens.
        ChartParser u = new ChartParser();
        for (int k = 0; k < 11; k++) {
            u.produce(11, 1, -1, -1);
        }
        u.produce(10, 0, 10, -1);
        write(u, 0, 0, 0, 0, 0, 0, 0, 0, 0, 1);
        due(13, "node(0)", u.node(0), -1);
        u.retract();
        u.retract();
        u.retract();
        u.produce(10, 0, 10, -1);
        u.produce(10, 1, -1, -1);
        due(13, "node(8)", u.node(8), 90810);
        due(13, "node(9)", u.node(9), 100910);
        due(13, "node(10)", u.node(10), -1);
    }

    private static void distance() {
        ChartParser x = parser(rules(r(10, 0, 10, 1), r(10, 0, 1), r(11), r(12, 12, 0), r(13, 2)), 0, 0, 1, 1, 5);
        due(14, "distance of what is derived", x.distance(10, 0, 4), 0);
        due(14, "one token out", x.distance(10, 0, 3), 1);
        due(14, "one token out at the end", x.distance(10, 0, 5), 1);
        due(14, "two tokens in", x.distance(10, 2, 2), 2);
        due(14, "one token in", x.distance(10, 2, 3), 1);
        due(14, "1 1 to 0 1", x.distance(10, 2, 4), 1);
        due(14, "1 5 to 0 1", x.distance(10, 3, 5), 2);
        due(14, "all out", x.distance(11, 0, 5), 5);
        due(14, "nothing to nothing", x.distance(11, 5, 5), 0);
        due(14, "all out but one that becomes another", x.distance(13, 0, 5), 5);
        due(14, "one becomes another", x.distance(13, 4, 5), 1);
        due(14, "not productive", x.distance(12, 0, 1), -1);
        due(14, "no productions", x.distance(14, 0, 0), -1);
        due(14, "i above j", x.distance(10, 3, 2), -1);
        for (int at : new int[] {LOW, -1, 6, 11, HIGH}) {
            due(14, "distance(10, " + at + ", 5)", x.distance(10, at, 5), -1);
            due(14, "distance(10, 0, " + at + ")", x.distance(10, 0, at), -1);
        }
        for (int n : WRONG_NONTERMINALS) {
            due(14, "distance(" + n + ", 0, 0)", x.distance(n, 0, 0), -1);
        }
        // The shortest sentence has 3^5 tokens.
        ChartParser y = parser(rules(r(10, 11, 11, 11), r(11, 12, 12, 12), r(12, 13, 13, 13), r(13, 14, 14, 14), r(14, 0, 0, 0)));
        due(14, "distance of nothing", y.distance(10, 0, 0), 243);
        write(y, 0, 1, 0, 0, 0, 0, 0, 0, 0, 0);
        due(14, "distance(10, 0, 10)", y.distance(10, 0, 10), 234);
        due(14, "distance(14, 0, 10)", y.distance(14, 0, 10), 7);
        due(14, "distance(14, 0, 2)", y.distance(14, 0, 2), 2);
        write(y, 1, 1, 1, 1, 1, 1, 1, 1, 1, 1);
        due(14, "distance(10, 0, 10)", y.distance(10, 0, 10), 243);
        due(14, "distance(14, 0, 10)", y.distance(14, 0, 10), 10);
        // Steps may be shared by no two tokens: 0 1 and 1 0 are two steps apart.
        ChartParser z = parser(rules(r(10, 0, 1)), 1, 0);
        due(14, "distance of two that change places", z.distance(10, 0, 2), 2);
        z.retract();
        due(14, "distance without productions", z.distance(10, 0, 2), -1);
    }

    private static void errorAt() {
        ChartParser x = parser(rules(r(10, 0, 10, 1), r(10, 0, 1), r(10, 2, 11), r(11, 11, 2)), 0, 0, 1, 1);
        due(15, "a sentence", x.errorAt(), -1);
        x.erase(3);
        due(15, "all of it a beginning", x.errorAt(), 3);
        x.insert(2, 4);
        due(15, "an error at 2", x.errorAt(), 2);
        x.set(0, 2);
        due(15, "2 begins no sentence, as 11 is not productive", x.errorAt(), 0);
        write(x);
        due(15, "the empty text", x.errorAt(), 0);
        x.produce(11, 3, -1, -1);
        write(x, 2, 3, 2, 2);
        due(15, "11 is productive now", x.errorAt(), -1);
        x.insert(4, 3);
        due(15, "an error at 4", x.errorAt(), 4);
        ChartParser y = parser(rules(r(10, 10, 0), r(11, 0)), 0);
        due(15, "the start is not productive", y.errorAt(), -2);
        y.produce(10, -1, -1, -1);
        due(15, "it is now", y.errorAt(), -1);
        // The empty text is the only sentence.
        ChartParser z = parser(rules(r(10)), 0, 0);
        due(15, "nothing may stand there", z.errorAt(), 0);
        // A sentence that the text begins is longer than any text may be.
        ChartParser u = parser(rules(r(10, 11, 11, 11), r(11, 12, 12, 12), r(12, 0, 0, 0)), 0, 0, 0, 0, 0, 0, 0, 0, 0, 0);
        due(15, "ten of 27 tokens", u.errorAt(), 10);
        u.set(9, 1);
        due(15, "nine of 27 tokens", u.errorAt(), 9);
    }

    private static void expected() {
        ChartParser x = parser(rules(r(10, 11, 12, 13), r(11), r(11, 0), r(12), r(12, 1, 12), r(13, 2, 14), r(13), r(14, 14, 3)), 0, 1, 1, 4);
        due(16, "expected(0)", x.expected(0), 67);
        due(16, "expected(1)", x.expected(1), 66);
        due(16, "expected(2)", x.expected(2), 66);
        due(16, "expected(3)", x.expected(3), 66);
        due(16, "expected(4)", x.expected(4), 0);
        x.produce(14, 5, -1, -1);
        due(16, "expected(0), 14 being productive", x.expected(0), 71);
        due(16, "expected(3)", x.expected(3), 70);
        x.set(3, 2);
        due(16, "expected(4)", x.expected(4), 32);
        x.insert(4, 5);
        due(16, "expected(5)", x.expected(5), 72);
        for (int k : new int[] {LOW, -1, 6, 10, 11, HIGH}) {
            due(16, "expected(" + k + ")", x.expected(k), -1);
        }
        ChartParser y = parser(rules(r(10, 0, 10), r(10, 11), r(11, 11)), 0);
        due(16, "the start is not productive", y.expected(0), 0);
        due(16, "the start is not productive", y.expected(1), 0);
        y.produce(10, 5, -1, -1);
        due(16, "expected(0)", y.expected(0), 33);
        due(16, "expected(1)", y.expected(1), 33);
        // A nonterminal that the start has not is none of its sentences'.
        ChartParser z = parser(rules(r(10, 0), r(11, 1)), 0);
        due(16, "expected(0)", z.expected(0), 1);
        due(16, "expected(1)", z.expected(1), 64);
        ChartParser u = parser(rules(r(10, 10, 0), r(10, 1), r(10, 10, 10, 2)), 1, 0, 0, 0, 0, 0, 0, 0, 0, 0);
        due(16, "expected(10) of ten tokens", u.expected(10), 67);
        due(16, "expected(11)", u.expected(11), -1);
        // What follows a sentence that is also the beginning of another one, by way of empty parts.
        ChartParser v = parser(rules(r(10, 11, 11, 11), r(11), r(11, 3)), 3, 3, 3);
        due(16, "expected(2)", v.expected(2), 72);
        due(16, "expected(3)", v.expected(3), 64);
    }

    private static void traits() {
        ChartParser x = parser(rules(r(10, 11, 0), r(11), r(12, 11, 11), r(13, 13), r(10, 13, 14), r(14, 1)));
        due(17, "traits(10)", x.traits(10), 5);
        due(17, "traits(11)", x.traits(11), 7);
        due(17, "traits(12): in no tree of the start", x.traits(12), 3);
        due(17, "traits(13): not productive", x.traits(13), 0);
        due(17, "traits(14): only beside what is not productive", x.traits(14), 1);
        for (int n : WRONG_NONTERMINALS) {
            due(17, "traits(" + n + ")", x.traits(n), -1);
        }
        x.produce(13, -1, -1, -1);
        due(17, "traits(13)", x.traits(13), 7);
        due(17, "traits(14)", x.traits(14), 5);
        write(x, 5, 5, 5);
        due(17, "traits(11) do not hang on the text", x.traits(11), 7);
        due(17, "traits(14) do not hang on the text", x.traits(14), 5);
        // Each needs the next one, and the productions stand in the worst order.
        ChartParser y = parser(rules(r(10, 11), r(11, 12), r(12, 13), r(13, 14), r(14, 0)));
        ChartParser z = parser(rules(r(14), r(13, 14), r(12, 13), r(11, 12), r(10, 11)));
        for (int n = 10; n <= 14; n++) {
            due(17, "traits(" + n + ") of a chain", y.traits(n), 5);
            due(17, "traits(" + n + ") of an empty chain", z.traits(n), 7);
        }
        // The start is not productive, so nothing is part of a tree of it.
        ChartParser u = parser(rules(r(10, 10, 11), r(11, 0)));
        due(17, "traits(10)", u.traits(10), 0);
        due(17, "traits(11)", u.traits(11), 1);
    }

    private static ChartParser ordinary() {
        ChartParser x = parser(rules(r(10, 10, 0, 10), r(10, 1), r(11, 10, 12), r(12), r(12, 2), r(13, 12, 12), r(14, 10)), 1, 0, 1, 0, 1, 2);
        x.action(0, 2, 5);
        return x;
    }

    private static ChartParser full() {
        ChartParser x = parser(rules(r(10, 0, 10), r(10), r(11, 0), r(12, 1), r(13, 11, 12), r(14, 14)), 0, 0, 0, 0, 0, 0, 0, 0, 0, 0);
        for (int k = 6; k < 12; k++) {
            x.produce(10, 0, 10, -1);
        }
        return x;
    }

    private static void refuse(ChartParser x) {
        x.produce(9, 0, -1, -1);
        x.produce(10, 6, -1, -1);
        x.produce(10, -1, 0, -1);
        x.action(12, 0, 0);
        x.action(0, 8, 0);
        x.action(-1, 0, 0);
        x.insert(11, 0);
        x.insert(0, 6);
        x.insert(-1, 0);
        x.erase(10);
        x.erase(-1);
        x.set(10, 0);
        x.set(0, -1);
        x.derives(9, 0, 0);
        x.trees(10, 3, 2);
        x.height(10, 0, 11);
        x.longest(15, 0);
        x.value(10, -1, 0);
        x.node(-1);
        x.distance(10, 0, 11);
        x.expected(11);
        x.traits(15);
    }

    private static void refusals() {
        for (int n = 10; n <= 14; n++) {
            ChartParser x = ordinary();
            refuse(x);
            alike("promise 18: after refusals", x, ordinary(), n);
            ChartParser y = full();
            refuse(y);
            due(18, "produce beyond the limit", y.produce(10, 1, -1, -1), -2);
            due(18, "insert beyond the limit", y.insert(0, 1), false);
            due(18, "insert beyond the limit", y.insert(10, 1), false);
            alike("promise 18: after limits were reached", y, full(), n);
            ChartParser z = new ChartParser();
            refuse(z);
            z.retract();
            z.erase(0);
            z.set(0, 0);
            alike("promise 18: after nothing was there", z, new ChartParser(), n);
            due(18, "produce after refusals", z.produce(10, 0, -1, -1), 0);
            due(18, "insert after refusals", z.insert(0, 0), true);
            due(18, "errorAt() after refusals", z.errorAt(), -1);
        }
    }

    public static void main(String[] args) {
        about("by hand");
        newObject();
        produce();
        retract();
        action();
        insert();
        erase();
        set();
        derives();
        trees();
        height();
        longest();
        actions();
        values();
        node();
        distance();
        errorAt();
        expected();
        traits();
        refusals();
        finish();
    }
}
