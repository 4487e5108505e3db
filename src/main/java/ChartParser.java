/**
 * A parser for any context-free grammar over a text that is edited.
 *
 * What is known of a nonterminal between two places stands in a cell, and every table has one entry a cell.
 * A table is worked out when a question first needs it, and forgotten when the grammar or the text changes.
 */
public final class ChartParser {
    public static final int BAD = -1;
    public static final int FULL = -2;
    public static final int ENDLESS = -3;
    public static final long NONE = -9223372036854775808L;

    private static final int ABSENT = -1;
    private static final int TERMINALS = 6;
    private static final int START = 10;
    private static final int NONTERMINALS = 5;
    private static final int MOST_PRODUCTIONS = 12;
    private static final int WIDTH = 3;
    private static final int RIGHT_SYMBOLS = MOST_PRODUCTIONS * WIDTH;
    private static final int MOST_TOKENS = 10;
    private static final int OPS = 8;
    private static final int PLACES = MOST_TOKENS + 1;
    private static final int SPANS = PLACES * PLACES;
    private static final int CELLS = NONTERMINALS * SPANS;
    private static final int MOST = 1000000000;
    private static final int SENTENCE = 64;

    // No least tree has the same cell twice on a way inwards, so none is as high as this.
    private static final int ANY_HEIGHT = CELLS + 1;

    // Above every distance: the shortest text of a nonterminal has at most 3^5 tokens.
    private static final int FAR = 1000000;

    private final int[] lefts = new int[MOST_PRODUCTIONS];
    private final int[] rights = new int[RIGHT_SYMBOLS];
    private final int[] ops = new int[MOST_PRODUCTIONS];
    private final int[] constants = new int[MOST_PRODUCTIONS];
    private int productions = 0;

    private final int[] text = new int[MOST_TOKENS];
    private int length = 0;

    private boolean chartReady = false;
    private boolean countsReady = false;
    private boolean distancesReady = false;
    private boolean followsReady = false;

    // The chart: the least height, and of the chosen tree its production and where its first two parts end.
    private final int[] heights = new int[CELLS];
    private final int[] chosen = new int[CELLS];
    private final int[] firstEnds = new int[CELLS];
    private final int[] secondEnds = new int[CELLS];

    // The cells that have a tree, the lower ones first, so that a chosen tree comes after the trees in it.
    private final int[] order = new int[CELLS];
    private int filled = 0;

    private final int[] counts = new int[CELLS];
    private final int[] distances = new int[CELLS];
    private final int[] follows = new int[CELLS];
    private final int[] sizes = new int[CELLS];
    private final long[] values = new long[CELLS];
    private final long[] operands = new long[WIDTH];

    private final boolean[] productive = new boolean[NONTERMINALS];
    private final boolean[] used = new boolean[NONTERMINALS];

    public ChartParser() {
    }

    // ---- the grammar and the text ----

    public int produce(int left, int a, int b, int c) {
        if (!isNonterminal(left) || !isRightSide(a, b, c)) {
            return BAD;
        }
        if (productions >= MOST_PRODUCTIONS) {
            return FULL;
        }
        int p = productions;
        lefts[p] = left;
        rights[WIDTH * p] = a;
        rights[WIDTH * p + 1] = b;
        rights[WIDTH * p + 2] = c;
        ops[p] = 1;
        constants[p] = 0;
        productions = p + 1;
        forget();
        return p;
    }

    public boolean retract() {
        if (productions == 0) {
            return false;
        }
        productions--;
        forget();
        return true;
    }

    public boolean action(int p, int op, int c) {
        if (p < 0 || p >= productions || op < 0 || op >= OPS) {
            return false;
        }
        ops[p] = op;
        constants[p] = c;
        return true;
    }

    public boolean insert(int at, int t) {
        if (!isPlace(at) || !isTerminal(t) || length >= MOST_TOKENS) {
            return false;
        }
        for (int k = length; k > at; k--) {
            text[k] = text[k - 1];
        }
        text[at] = t;
        length++;
        forget();
        return true;
    }

    public boolean erase(int at) {
        if (!isToken(at)) {
            return false;
        }
        for (int k = at; k < length - 1; k++) {
            text[k] = text[k + 1];
        }
        length--;
        forget();
        return true;
    }

    public boolean set(int at, int t) {
        if (!isToken(at) || !isTerminal(t)) {
            return false;
        }
        text[at] = t;
        forget();
        return true;
    }

    private void forget() {
        chartReady = false;
        countsReady = false;
        distancesReady = false;
        followsReady = false;
    }

    // ---- the questions ----

    public boolean derives(int n, int i, int j) {
        needChart();
        return isSpan(n, i, j) && heights[cell(n, i, j)] > 0;
    }

    public int trees(int n, int i, int j) {
        needChart();
        needCounts();
        return isSpan(n, i, j) ? counts[cell(n, i, j)] : 0;
    }

    public int height(int n, int i, int j) {
        needChart();
        return isSpan(n, i, j) ? heights[cell(n, i, j)] : 0;
    }

    public int longest(int n, int i) {
        if (!isNonterminal(n) || !isPlace(i)) {
            return -1;
        }
        needChart();
        for (int j = length; j >= i; j--) {
            if (heights[cell(n, i, j)] > 0) {
                return j;
            }
        }
        return -1;
    }

    public long value(int n, int i, int j) {
        needChart();
        fillValues();
        return isSpan(n, i, j) ? values[cell(n, i, j)] : NONE;
    }

    public int node(int k) {
        needChart();
        fillSizes();
        int root = cell(START, 0, length);
        if (k < 0 || k >= sizes[root] || sizes[root] > MOST) {
            return -1;
        }
        int at = findNode(root, k);
        return 10000 * chosen[at] + 100 * beginOf(at) + endOf(at);
    }

    public int distance(int n, int i, int j) {
        if (!isSpan(n, i, j)) {
            return -1;
        }
        needDistances();
        int least = distances[cell(n, i, j)];
        return least < FAR ? least : -1;
    }

    public int errorAt() {
        needChart();
        needFollows();
        if (heights[cell(START, 0, length)] > 0) {
            return -1;
        }
        for (int k = length; k >= 0; k--) {
            if (whatFollows(k) != 0) {
                return k;
            }
        }
        return -2;
    }

    public int expected(int k) {
        if (!isPlace(k)) {
            return -1;
        }
        needChart();
        needFollows();
        return whatFollows(k);
    }

    public int traits(int n) {
        if (!isNonterminal(n)) {
            return -1;
        }
        needChart();
        markProductive();
        markUsed();
        int sum = productive[n - START] ? 1 : 0;
        if (heights[cell(n, 0, 0)] > 0) {
            sum += 2;
        }
        if (used[n - START]) {
            sum += 4;
        }
        return sum;
    }

    // ---- what is what ----

    private static boolean isTerminal(int symbol) {
        return symbol >= 0 && symbol < TERMINALS;
    }

    private static boolean isNonterminal(int symbol) {
        return symbol >= START && symbol < START + NONTERMINALS;
    }

    private static boolean isSymbolOrAbsent(int symbol) {
        return symbol == ABSENT || isTerminal(symbol) || isNonterminal(symbol);
    }

    private static boolean isRightSide(int a, int b, int c) {
        boolean known = isSymbolOrAbsent(a) && isSymbolOrAbsent(b) && isSymbolOrAbsent(c);
        boolean gapless = (a != ABSENT || b == ABSENT) && (b != ABSENT || c == ABSENT);
        return known && gapless;
    }

    private boolean isPlace(int at) {
        return at >= 0 && at <= length;
    }

    private boolean isToken(int at) {
        return at >= 0 && at < length;
    }

    private boolean isSpan(int n, int i, int j) {
        return isNonterminal(n) && isPlace(i) && isPlace(j) && i <= j;
    }

    private static int cell(int n, int i, int j) {
        return (n - START) * SPANS + i * PLACES + j;
    }

    private static int beginOf(int at) {
        return at / PLACES % PLACES;
    }

    private static int endOf(int at) {
        return at % PLACES;
    }

    // ---- the chart: least heights and chosen trees ----

    // Every division is one into three parts: an absent symbol takes the empty part alone, so that a shorter right
    // side is divided in no more ways than it should be.

    private void needChart() {
        if (chartReady) {
            return;
        }
        for (int at = 0; at < CELLS; at++) {
            heights[at] = 0;
        }
        filled = 0;
        boolean grown = true;
        // A height that no cell has is one that no tree can be built upon.
        for (int h = 1; h < ANY_HEIGHT && grown; h++) {
            grown = fillHeight(h);
        }
        chartReady = true;
    }

    private boolean fillHeight(int h) {
        int before = filled;
        // The least production that fits comes first, and fills the cell for those behind it.
        for (int p = 0; p < productions; p++) {
            for (int i = 0; i <= length; i++) {
                for (int j = i; j <= length; j++) {
                    if (heights[cell(lefts[p], i, j)] == 0) {
                        choose(p, i, j, h);
                    }
                }
            }
        }
        return filled > before;
    }

    private void choose(int p, int i, int j, int h) {
        for (int a = j; a >= i; a--) {
            if (!fits(rights[WIDTH * p], i, a, h)) {
                continue;
            }
            for (int b = j; b >= a; b--) {
                if (fits(rights[WIDTH * p + 1], a, b, h) && fits(rights[WIDTH * p + 2], b, j, h)) {
                    int at = cell(lefts[p], i, j);
                    heights[at] = h;
                    chosen[at] = p;
                    firstEnds[at] = a;
                    secondEnds[at] = b;
                    order[filled] = at;
                    filled++;
                    return;
                }
            }
        }
    }

    /** Whether i to j can be the part of the symbol, with a tree lower than h if it is a nonterminal. */
    private boolean fits(int symbol, int i, int j, int h) {
        if (symbol < START) {
            return fitsTreeless(symbol, i, j);
        }
        int least = heights[cell(symbol, i, j)];
        return least > 0 && least < h;
    }

    private boolean fitsTreeless(int symbol, int i, int j) {
        if (symbol == ABSENT) {
            return i == j;
        }
        return j == i + 1 && text[i] == symbol;
    }

    // ---- how many trees ----

    private void needCounts() {
        if (countsReady) {
            return;
        }
        // What is never counted, because it waits for itself, is endless: so ENDLESS stands there from the first.
        for (int at = 0; at < CELLS; at++) {
            counts[at] = heights[at] > 0 ? ENDLESS : 0;
        }
        boolean changed = true;
        for (int round = 0; round <= CELLS && changed; round++) {
            changed = false;
            for (int k = 0; k < filled; k++) {
                int at = order[k];
                if (counts[at] == ENDLESS) {
                    counts[at] = countCell(at);
                    changed = changed || counts[at] != ENDLESS;
                }
            }
        }
        countsReady = true;
    }

    private int countCell(int at) {
        long sum = 0;
        for (int p = 0; p < productions; p++) {
            if (lefts[p] == START + at / SPANS) {
                int some = countDivisions(p, at);
                if (some == ENDLESS) {
                    return ENDLESS;
                }
                sum = atMost(sum + some);
            }
        }
        return (int) sum;
    }

    private int countDivisions(int p, int at) {
        int i = beginOf(at);
        int j = endOf(at);
        long sum = 0;
        for (int a = i; a <= j; a++) {
            int first = countPart(rights[WIDTH * p], i, a);
            for (int b = a; b <= j && first != 0; b++) {
                int second = countPart(rights[WIDTH * p + 1], a, b);
                int third = countPart(rights[WIDTH * p + 2], b, j);
                if (second == 0 || third == 0) {
                    continue;
                }
                if (first == ENDLESS || second == ENDLESS || third == ENDLESS) {
                    return ENDLESS;
                }
                long both = atMost((long) first * second);
                long all = atMost(both * third);
                sum = atMost(sum + all);
            }
        }
        return (int) sum;
    }

    private int countPart(int symbol, int i, int j) {
        if (symbol >= START) {
            return counts[cell(symbol, i, j)];
        }
        return fitsTreeless(symbol, i, j) ? 1 : 0;
    }

    private static long atMost(long count) {
        return count < MOST ? count : MOST;
    }

    // ---- the nodes and the value of the chosen tree ----

    /** The cell of symbol m in the chosen tree of a cell; ABSENT if it is no nonterminal. */
    private int inner(int at, int m) {
        int symbol = rights[WIDTH * chosen[at] + m];
        if (symbol < START) {
            return ABSENT;
        }
        int from = m == 0 ? beginOf(at) : m == 1 ? firstEnds[at] : secondEnds[at];
        int to = m == 0 ? firstEnds[at] : m == 1 ? secondEnds[at] : endOf(at);
        return cell(symbol, from, to);
    }

    private void fillSizes() {
        for (int at = 0; at < CELLS; at++) {
            sizes[at] = 0;
        }
        for (int k = 0; k < filled; k++) {
            int at = order[k];
            long size = 1;
            for (int m = 0; m < WIDTH; m++) {
                int in = inner(at, m);
                size += in == ABSENT ? 0 : sizes[in];
            }
            sizes[at] = size > MOST ? MOST + 1 : (int) size;
        }
    }

    private int findNode(int root, int k) {
        int at = root;
        int before = k;
        for (int depth = 0; depth < CELLS && before > 0; depth++) {
            before--;
            int outer = at;
            for (int m = 0; m < WIDTH; m++) {
                int in = inner(outer, m);
                if (in == ABSENT) {
                    continue;
                }
                if (before < sizes[in]) {
                    at = in;
                    break;
                }
                before -= sizes[in];
            }
        }
        return at;
    }

    private void fillValues() {
        for (int at = 0; at < CELLS; at++) {
            values[at] = NONE;
        }
        for (int k = 0; k < filled; k++) {
            int at = order[k];
            int p = chosen[at];
            int many = fillOperands(at);
            if (many != ABSENT) {
                values[at] = act(ops[p], constants[p], many);
            }
        }
    }

    /** How many symbols the chosen tree of the cell has, their values being operands; ABSENT if one has none. */
    private int fillOperands(int at) {
        for (int m = 0; m < WIDTH; m++) {
            int symbol = rights[WIDTH * chosen[at] + m];
            if (symbol == ABSENT) {
                return m;
            }
            int in = inner(at, m);
            operands[m] = in == ABSENT ? symbol : values[in];
            if (operands[m] == NONE) {
                return ABSENT;
            }
        }
        return WIDTH;
    }

    private long act(int op, long c, int many) {
        switch (op) {
            case 1:
                return c + sumFrom(0, many);
            case 2:
                return timesAll(c, many);
            case 3:
                return many == 0 ? -c : operands[0] - c - sumFrom(1, many);
            case 4:
                return digits(c, many);
            case 5:
                return greatest(c, many);
            case 6:
                return quotient(c, many);
            case 7:
                return many == 0 ? c : operands[0] > c ? operands[many - 1] : operands[0];
            default:
                return c;
        }
    }

    private long sumFrom(int first, int many) {
        long sum = 0;
        for (int m = first; m < many; m++) {
            sum += operands[m];
        }
        return sum;
    }

    private long timesAll(long c, int many) {
        long product = c;
        for (int m = 0; m < many; m++) {
            product *= operands[m];
        }
        return product;
    }

    private long digits(long c, int many) {
        long number = c;
        for (int m = 0; m < many; m++) {
            number = 10 * number + operands[m];
        }
        return number;
    }

    private long greatest(long c, int many) {
        long most = c;
        for (int m = 0; m < many; m++) {
            most = operands[m] > most ? operands[m] : most;
        }
        return most;
    }

    private long quotient(long c, int many) {
        if (many == 0) {
            return c;
        }
        long divisor = c + sumFrom(1, many);
        return divisor == 0 ? NONE : operands[0] / divisor;
    }

    // ---- distances ----

    private void needDistances() {
        if (distancesReady) {
            return;
        }
        for (int at = 0; at < CELLS; at++) {
            distances[at] = FAR;
        }
        boolean nearer = true;
        // A tree at the least distance need not have a cell twice on a way inwards, so this many rounds are enough.
        for (int round = 0; round <= CELLS && nearer; round++) {
            nearer = comeNearer();
        }
        distancesReady = true;
    }

    private boolean comeNearer() {
        boolean nearer = false;
        for (int p = 0; p < productions; p++) {
            for (int i = 0; i <= length; i++) {
                for (int j = i; j <= length; j++) {
                    int at = cell(lefts[p], i, j);
                    int least = distanceOfDivisions(p, i, j);
                    if (least < distances[at]) {
                        distances[at] = least;
                        nearer = true;
                    }
                }
            }
        }
        return nearer;
    }

    private int distanceOfDivisions(int p, int i, int j) {
        int least = FAR;
        for (int a = i; a <= j; a++) {
            int first = distanceOfPart(rights[WIDTH * p], i, a);
            for (int b = a; b <= j && first < least; b++) {
                int second = distanceOfPart(rights[WIDTH * p + 1], a, b);
                int third = distanceOfPart(rights[WIDTH * p + 2], b, j);
                int sum = first + second + third;
                least = sum < least ? sum : least;
            }
        }
        return least;
    }

    private int distanceOfPart(int symbol, int i, int j) {
        if (symbol >= START) {
            return distances[cell(symbol, i, j)];
        }
        if (symbol == ABSENT) {
            return j - i;
        }
        if (i == j) {
            return 1;
        }
        return hasToken(symbol, i, j) ? j - i - 1 : j - i;
    }

    private boolean hasToken(int t, int i, int j) {
        for (int k = i; k < j; k++) {
            if (text[k] == t) {
                return true;
            }
        }
        return false;
    }

    // ---- beginnings ----

    /** 0 if and only if the first k tokens are no beginning: a beginning is a sentence or goes on. */
    private int whatFollows(int k) {
        int at = cell(START, 0, k);
        return follows[at] + (heights[at] > 0 ? SENTENCE : 0);
    }

    /** Finds for each cell the terminals t such that a text of the nonterminal begins with its tokens and t. */
    private void needFollows() {
        if (followsReady) {
            return;
        }
        markProductive();
        for (int at = 0; at < CELLS; at++) {
            follows[at] = 0;
        }
        boolean changed = true;
        for (int round = 0; round <= CELLS * TERMINALS && changed; round++) {
            changed = followMore();
        }
        followsReady = true;
    }

    private boolean followMore() {
        boolean changed = false;
        for (int p = 0; p < productions; p++) {
            if (!isProductive(p)) {
                continue;
            }
            for (int i = 0; i <= length; i++) {
                for (int k = i; k <= length; k++) {
                    int at = cell(lefts[p], i, k);
                    int more = follows[at] | followsOfDivisions(p, i, k);
                    changed = changed || more != follows[at];
                    follows[at] = more;
                }
            }
        }
        return changed;
    }

    // The symbols behind the one that goes on past place k may be anything, as they are productive.
    private int followsOfDivisions(int p, int i, int k) {
        int set = followsOfPart(rights[WIDTH * p], i, k);
        for (int a = i; a <= k; a++) {
            if (!fits(rights[WIDTH * p], i, a, ANY_HEIGHT)) {
                continue;
            }
            set |= followsOfPart(rights[WIDTH * p + 1], a, k);
            for (int b = a; b <= k; b++) {
                if (fits(rights[WIDTH * p + 1], a, b, ANY_HEIGHT)) {
                    set |= followsOfPart(rights[WIDTH * p + 2], b, k);
                }
            }
        }
        return set;
    }

    private int followsOfPart(int symbol, int i, int k) {
        if (symbol >= START) {
            return follows[cell(symbol, i, k)];
        }
        return symbol != ABSENT && i == k ? 1 << symbol : 0;
    }

    // ---- what is true for any text ----

    private void markProductive() {
        for (int n = 0; n < NONTERMINALS; n++) {
            productive[n] = false;
        }
        for (int round = 0; round < NONTERMINALS; round++) {
            for (int p = 0; p < productions; p++) {
                if (isProductive(p)) {
                    productive[lefts[p] - START] = true;
                }
            }
        }
    }

    private boolean isProductive(int p) {
        for (int m = 0; m < WIDTH; m++) {
            int symbol = rights[WIDTH * p + m];
            if (symbol >= START && !productive[symbol - START]) {
                return false;
            }
        }
        return true;
    }

    private void markUsed() {
        for (int n = 0; n < NONTERMINALS; n++) {
            used[n] = n == 0 && productive[n];
        }
        for (int round = 0; round < NONTERMINALS; round++) {
            for (int p = 0; p < productions; p++) {
                if (used[lefts[p] - START] && isProductive(p)) {
                    useRightSide(p);
                }
            }
        }
    }

    private void useRightSide(int p) {
        for (int m = 0; m < WIDTH; m++) {
            int symbol = rights[WIDTH * p + m];
            if (symbol >= START) {
                used[symbol - START] = true;
            }
        }
    }
}
