/** What the tests of answers share: the making of objects, the comparing of answers, and the telling of what was wrong. */
abstract class Trial {
    static final int LOW = -2147483648;
    static final int HIGH = 2147483647;
    static final long NONE = -9223372036854775808L;

    private static int wrong = 0;
    private static String about = "";

    /** Names what the answers from here on bear on. */
    static void about(String what) {
        about = what;
    }

    /** A test of its own for one sentence of the document: a call that throws breaks this sentence alone. */
    static void boundary(String sentence, Runnable test) {
        about = sentence;
        try {
            test.run();
        } catch (RuntimeException thrown) {
            wrong++;
            System.out.println(about + ": a call has thrown " + thrown);
        }
    }

    static void due(String call, long got, long want) {
        if (got != want) {
            wrong++;
            System.out.println(about + ": " + call + " answered " + got + ", due is " + want);
        }
    }

    static void due(String call, boolean got, boolean want) {
        due(call, got ? 1L : 0L, want ? 1L : 0L);
    }

    /** For what is no answer of a call. */
    static void require(String what, boolean held) {
        if (!held) {
            wrong++;
            System.out.println(about + ": " + what);
        }
    }

    /** An object with these productions, each a left side and its symbols, and this text. */
    static ChartParser parser(int[][] rules, int... text) {
        ChartParser x = new ChartParser();
        for (int[] r : rules) {
            x.produce(r[0], r.length > 1 ? r[1] : -1, r.length > 2 ? r[2] : -1, r.length > 3 ? r[3] : -1);
        }
        write(x, text);
        return x;
    }

    static void write(ChartParser x, int... text) {
        while (x.erase(0)) {
            continue;
        }
        for (int k = 0; k < text.length; k++) {
            x.insert(k, text[k]);
        }
    }

    static int[][] rules(int[]... all) {
        return all;
    }

    static int[] r(int... rule) {
        return rule;
    }

    /** This many tokens t. */
    static int[] times(int many, int t) {
        int[] tokens = new int[many];
        java.util.Arrays.fill(tokens, t);
        return tokens;
    }

    /** The answers that are due of n from i to j where n is no nonterminal, or i to j is no part of the text. */
    static void outside(ChartParser x, int n, int i, int j) {
        String span = "(" + n + ", " + i + ", " + j + ")";
        due("derives" + span, x.derives(n, i, j), false);
        due("trees" + span, x.trees(n, i, j), 0);
        due("height" + span, x.height(n, i, j), 0);
        due("value" + span, x.value(n, i, j), NONE);
        due("distance" + span, x.distance(n, i, j), -1);
    }

    /** Every question that bears on n, put to two objects that should be alike: fewer than 450 calls of each. */
    static void alike(String what, ChartParser x, ChartParser y, int n) {
        due(what + ": errorAt()", x.errorAt(), y.errorAt());
        due(what + ": traits(" + n + ")", x.traits(n), y.traits(n));
        for (int i = 0; i <= 10; i++) {
            due(what + ": longest(" + n + ", " + i + ")", x.longest(n, i), y.longest(n, i));
            for (int j = i; j <= 10; j++) {
                String span = "(" + n + ", " + i + ", " + j + ")";
                due(what + ": trees" + span, x.trees(n, i, j), y.trees(n, i, j));
                due(what + ": height" + span, x.height(n, i, j), y.height(n, i, j));
                due(what + ": value" + span, x.value(n, i, j), y.value(n, i, j));
                due(what + ": distance" + span, x.distance(n, i, j), y.distance(n, i, j));
            }
        }
        for (int k = 0; k <= 20; k++) {
            due(what + ": expected(" + k + ")", x.expected(k), y.expected(k));
            due(what + ": node(" + k + ")", x.node(k), y.node(k));
        }
    }

    static void finish() {
        System.out.println(wrong == 0 ? "all answers are as due" : wrong + " answers are not as due");
        if (wrong != 0) {
            System.exit(1);
        }
    }
}
