import java.math.BigInteger;
import java.util.ArrayDeque;
import java.util.ArrayList;
import java.util.Arrays;
import java.util.Comparator;
import java.util.Deque;
import java.util.HashMap;
import java.util.HashSet;
import java.util.List;
import java.util.Map;
import java.util.Random;
import java.util.Set;

/**
 * Random runs of calls, each answer compared with a plain model of the document's terms. The model works in other ways
 * than the class: trees are built as objects, beginnings are found by an Earley recogniser, and distances by comparing
 * with all the short texts of the language. The seeds are fixed, so that every run is the same.
 */
public final class ChartParserModel {
    private static final int RUNS = 1500;
    private static final int MOST_CALLS = 500;
    private static final long CAP = 1000000000L;

    /** A way to divide i to j among the symbols of production p: cuts has one more entry than there are symbols. */
    private record Division(int p, int[] cuts) {
        int partLength(int m) {
            return m + 1 < cuts.length ? cuts[m + 1] - cuts[m] : 0;
        }
    }

    /** A tree as an object; null stands for the parts of terminals. */
    private record Tree(int p, int i, int j, List<Tree> inner) {
    }

    private record Item(int p, int dot, int origin) {
    }

    /** The grammar and the text as lists, with every answer worked out anew from them. */
    private static final class Model {
        final List<int[]> rules = new ArrayList<>();
        final List<Integer> lefts = new ArrayList<>();
        final List<int[]> actions = new ArrayList<>();
        final List<Integer> text = new ArrayList<>();
        private boolean known = false;
        private final Map<List<Integer>, Integer> least = new HashMap<>();
        private final Map<List<Integer>, Long> counts = new HashMap<>();
        private final Set<List<Integer>> endless = new HashSet<>();
        private final List<Set<Item>> earley = new ArrayList<>();
        private final Map<Integer, Set<List<Integer>>> language = new HashMap<>();
        private int languageLength = 0;

        // -- changes --

        int produce(int left, int a, int b, int c) {
            int[] given = {a, b, c};
            List<Integer> right = new ArrayList<>();
            boolean ended = false;
            for (int s : given) {
                if (s == -1) {
                    ended = true;
                } else if (ended || !(s >= 0 && s <= 5 || s >= 10 && s <= 14)) {
                    return -1;
                } else {
                    right.add(s);
                }
            }
            if (left < 10 || left > 14) {
                return -1;
            }
            if (rules.size() == 12) {
                return -2;
            }
            rules.add(right.stream().mapToInt(s -> s).toArray());
            lefts.add(left);
            actions.add(new int[] {1, 0});
            known = false;
            return rules.size() - 1;
        }

        boolean retract() {
            if (rules.isEmpty()) {
                return false;
            }
            rules.remove(rules.size() - 1);
            lefts.remove(lefts.size() - 1);
            actions.remove(actions.size() - 1);
            known = false;
            return true;
        }

        boolean action(int p, int op, int c) {
            if (p < 0 || p >= rules.size() || op < 0 || op > 7) {
                return false;
            }
            actions.set(p, new int[] {op, c});
            return true;
        }

        boolean insert(int at, int t) {
            if (at < 0 || at > text.size() || t < 0 || t > 5 || text.size() == 10) {
                return false;
            }
            text.add(at, t);
            known = false;
            return true;
        }

        boolean erase(int at) {
            if (at < 0 || at >= text.size()) {
                return false;
            }
            text.remove(at);
            known = false;
            return true;
        }

        boolean set(int at, int t) {
            if (at < 0 || at >= text.size() || t < 0 || t > 5) {
                return false;
            }
            text.set(at, t);
            known = false;
            return true;
        }

        // -- trees by their heights --

        boolean isSpan(int n, int i, int j) {
            return n >= 10 && n <= 14 && i >= 0 && i <= j && j <= text.size();
        }

        List<Division> divisions(int n, int i, int j) {
            List<Division> all = new ArrayList<>();
            for (int p = 0; p < rules.size(); p++) {
                if (lefts.get(p) == n) {
                    int[] cuts = new int[rules.get(p).length + 1];
                    cuts[0] = i;
                    addDivisions(p, cuts, 1, j, all);
                }
            }
            return all;
        }

        private void addDivisions(int p, int[] cuts, int m, int j, List<Division> all) {
            if (m == cuts.length) {
                if (cuts[m - 1] == j) {
                    all.add(new Division(p, cuts.clone()));
                }
                return;
            }
            int symbol = rules.get(p)[m - 1];
            for (int cut = cuts[m - 1]; cut <= j; cut++) {
                if (symbol >= 10 || cut == cuts[m - 1] + 1 && text.get(cuts[m - 1]) == symbol) {
                    cuts[m] = cut;
                    addDivisions(p, cuts, m + 1, j, all);
                }
            }
        }

        List<List<Integer>> innerCells(Division d) {
            List<List<Integer>> cells = new ArrayList<>();
            int[] right = rules.get(d.p());
            for (int m = 0; m < right.length; m++) {
                if (right[m] >= 10) {
                    cells.add(List.of(right[m], d.cuts()[m], d.cuts()[m + 1]));
                }
            }
            return cells;
        }

        void know() {
            if (known) {
                return;
            }
            known = true;
            least.clear();
            counts.clear();
            endless.clear();
            earley.clear();
            language.clear();
            Map<List<Integer>, Integer> numbers = new HashMap<>();
            List<List<Integer>> cells = new ArrayList<>();
            for (int n = 10; n <= 14; n++) {
                for (int i = 0; i <= text.size(); i++) {
                    for (int j = i; j <= text.size(); j++) {
                        numbers.put(List.of(n, i, j), cells.size());
                        cells.add(List.of(n, i, j));
                    }
                }
            }
            List<int[][]> needs = new ArrayList<>();
            for (List<Integer> cell : cells) {
                needs.add(divisions(cell.get(0), cell.get(1), cell.get(2)).stream()
                    .map(d -> innerCells(d).stream().mapToInt(numbers::get).toArray()).toArray(int[][]::new));
            }
            knowHeights(cells, needs);
            Long[] made = new Long[cells.size()];
            for (int at = 0; at < cells.size(); at++) {
                if (least.containsKey(cells.get(at)) && !endless.contains(cells.get(at))) {
                    counts.put(cells.get(at), countTrees(at, cells, needs, made));
                }
            }
        }

        /** Which cells have a tree of exactly this height, told which have one one lower and which a lower one at all. */
        private static boolean[] nextHeight(List<int[][]> needs, boolean[] oneLower, boolean[] lower, boolean lowest) {
            boolean[] next = new boolean[needs.size()];
            for (int at = 0; at < next.length; at++) {
                for (int[] inner : needs.get(at)) {
                    boolean there = true;
                    boolean touching = lowest && inner.length == 0;
                    for (int in : inner) {
                        there &= lower[in];
                        touching |= oneLower[in];
                    }
                    next[at] |= there && touching;
                }
            }
            return next;
        }

        // Endlessly many trees mean one higher than there are cells, but at most three times as high.
        private void knowHeights(List<List<Integer>> cells, List<int[][]> needs) {
            int many = cells.size();
            boolean[] exactly = new boolean[many];
            boolean[] upTo = new boolean[many];
            for (int high = 1; high <= 3 * many; high++) {
                exactly = nextHeight(needs, exactly, upTo, high == 1);
                boolean some = false;
                for (int at = 0; at < many; at++) {
                    upTo[at] |= exactly[at];
                    some |= exactly[at];
                    if (exactly[at]) {
                        least.putIfAbsent(cells.get(at), high);
                    }
                    if (exactly[at] && high > many) {
                        endless.add(cells.get(at));
                    }
                }
                if (!some) {
                    return;
                }
            }
        }

        private long countTrees(int at, List<List<Integer>> cells, List<int[][]> needs, Long[] made) {
            if (made[at] != null) {
                return made[at];
            }
            BigInteger sum = BigInteger.ZERO;
            for (int[] inner : needs.get(at)) {
                if (!Arrays.stream(inner).allMatch(in -> least.containsKey(cells.get(in)))) {
                    continue;
                }
                BigInteger product = BigInteger.ONE;
                for (int in : inner) {
                    product = product.multiply(BigInteger.valueOf(countTrees(in, cells, needs, made)));
                }
                sum = sum.add(product);
            }
            made[at] = sum.min(BigInteger.valueOf(CAP)).longValue();
            return made[at];
        }

        boolean derives(int n, int i, int j) {
            know();
            return isSpan(n, i, j) && least.containsKey(List.of(n, i, j));
        }

        int trees(int n, int i, int j) {
            if (!derives(n, i, j)) {
                return 0;
            }
            List<Integer> cell = List.of(n, i, j);
            return endless.contains(cell) ? -3 : (int) (long) counts.get(cell);
        }

        int height(int n, int i, int j) {
            return derives(n, i, j) ? least.get(List.of(n, i, j)) : 0;
        }

        int longest(int n, int i) {
            int best = -1;
            for (int j = 0; j <= text.size(); j++) {
                best = derives(n, i, j) ? j : best;
            }
            return best;
        }

        // -- the chosen tree --

        Tree chosen(int n, int i, int j) {
            int want = height(n, i, j) - 1;
            List<Division> best = new ArrayList<>();
            for (Division d : divisions(n, i, j)) {
                List<List<Integer>> inner = innerCells(d);
                if (least.keySet().containsAll(inner) && inner.stream().mapToInt(least::get).max().orElse(0) == want) {
                    best.add(d);
                }
            }
            best.sort(Comparator.comparingInt(Division::p)
                .thenComparing(Comparator.comparingInt((Division d) -> d.partLength(0)).reversed())
                .thenComparing(Comparator.comparingInt((Division d) -> d.partLength(1)).reversed()));
            Division d = best.get(0);
            List<Tree> inner = new ArrayList<>();
            int[] right = rules.get(d.p());
            for (int m = 0; m < right.length; m++) {
                inner.add(right[m] >= 10 ? chosen(right[m], d.cuts()[m], d.cuts()[m + 1]) : null);
            }
            return new Tree(d.p(), i, j, inner);
        }

        long value(int n, int i, int j) {
            if (!derives(n, i, j)) {
                return Long.MIN_VALUE;
            }
            Long v = valueOf(chosen(n, i, j));
            return v == null ? Long.MIN_VALUE : v;
        }

        private Long valueOf(Tree tree) {
            List<Long> given = new ArrayList<>();
            for (int m = 0; m < tree.inner().size(); m++) {
                Tree in = tree.inner().get(m);
                Long v = in == null ? Long.valueOf(rules.get(tree.p())[m]) : valueOf(in);
                if (v == null) {
                    return null;
                }
                given.add(v);
            }
            Long v = apply(actions.get(tree.p())[0], actions.get(tree.p())[1], given);
            return v == null || v == Long.MIN_VALUE ? null : v;
        }

        private static Long apply(int op, long c, List<Long> given) {
            BigInteger constant = BigInteger.valueOf(c);
            BigInteger sum = constant;
            BigInteger product = constant;
            BigInteger digits = constant;
            long most = c;
            for (long v : given) {
                sum = sum.add(BigInteger.valueOf(v));
                product = product.multiply(BigInteger.valueOf(v));
                digits = digits.multiply(BigInteger.TEN).add(BigInteger.valueOf(v));
                most = Math.max(most, v);
            }
            if (given.isEmpty()) {
                return op == 3 ? -c : c;
            }
            BigInteger first = BigInteger.valueOf(given.get(0));
            BigInteger behind = sum.subtract(first);
            switch (op) {
                case 0: return c;
                case 1: return sum.longValue();
                case 2: return product.longValue();
                case 3: return first.subtract(behind).longValue();
                case 4: return digits.longValue();
                case 5: return most;
                case 6: return behind.longValue() == 0 ? null : Long.valueOf(first.longValue() / behind.longValue());
                default: return first.longValue() > c ? given.get(given.size() - 1) : given.get(0);
            }
        }

        int node(int k) {
            if (!derives(10, 0, text.size())) {
                return -1;
            }
            List<Integer> nodes = new ArrayList<>();
            addNodes(chosen(10, 0, text.size()), nodes);
            return k >= 0 && k < nodes.size() ? nodes.get(k) : -1;
        }

        private void addNodes(Tree tree, List<Integer> nodes) {
            nodes.add(10000 * tree.p() + 100 * tree.i() + tree.j());
            for (Tree in : tree.inner()) {
                if (in != null) {
                    addNodes(in, nodes);
                }
            }
        }

        // -- what is true for any text --

        boolean isProductive(int n, Set<Integer> outside) {
            if (outside.contains(n)) {
                return false;
            }
            Set<Integer> within = new HashSet<>(outside);
            within.add(n);
            for (int p = 0; p < rules.size(); p++) {
                if (lefts.get(p) == n && Arrays.stream(rules.get(p)).allMatch(s -> s < 10 || isProductive(s, within))) {
                    return true;
                }
            }
            return false;
        }

        boolean isProductive(int n) {
            return isProductive(n, Set.of());
        }

        Set<Integer> used() {
            Set<Integer> found = new HashSet<>();
            Deque<Integer> todo = new ArrayDeque<>();
            if (isProductive(10)) {
                todo.add(10);
            }
            while (!todo.isEmpty()) {
                int n = todo.remove();
                if (!found.add(n)) {
                    continue;
                }
                for (int p = 0; p < rules.size(); p++) {
                    if (lefts.get(p) == n && Arrays.stream(rules.get(p)).allMatch(s -> s < 10 || isProductive(s))) {
                        Arrays.stream(rules.get(p)).filter(s -> s >= 10).forEach(todo::add);
                    }
                }
            }
            return found;
        }

        int traits(int n) {
            if (n < 10 || n > 14) {
                return -1;
            }
            return (isProductive(n) ? 1 : 0) + (derives(n, 0, 0) ? 2 : 0) + (used().contains(n) ? 4 : 0);
        }

        // -- beginnings, by an Earley recogniser over the productive productions --

        private void recognise() {
            if (!earley.isEmpty()) {
                return;
            }
            Set<Integer> whole = new HashSet<>();
            for (int p = 0; p < rules.size(); p++) {
                if (Arrays.stream(rules.get(p)).allMatch(s -> s < 10 || isProductive(s))) {
                    whole.add(p);
                }
            }
            for (int k = 0; k <= text.size(); k++) {
                earley.add(new HashSet<>());
            }
            for (int p : whole) {
                if (lefts.get(p) == 10) {
                    earley.get(0).add(new Item(p, 0, 0));
                }
            }
            for (int k = 0; k <= text.size(); k++) {
                complete(k, whole);
                for (Item item : earley.get(k)) {
                    int symbol = behindDot(item);
                    if (k < text.size() && symbol >= 0 && symbol < 10 && text.get(k) == symbol) {
                        earley.get(k + 1).add(new Item(item.p(), item.dot() + 1, item.origin()));
                    }
                }
            }
        }

        private int behindDot(Item item) {
            int[] right = rules.get(item.p());
            return item.dot() < right.length ? right[item.dot()] : -1;
        }

        private void complete(int k, Set<Integer> whole) {
            Set<Item> items = earley.get(k);
            boolean changed = true;
            while (changed) {
                Set<Item> more = new HashSet<>();
                for (Item item : items) {
                    int symbol = behindDot(item);
                    for (int p : whole) {
                        if (symbol >= 10 && lefts.get(p) == symbol) {
                            more.add(new Item(p, 0, k));
                        }
                    }
                    if (symbol == -1) {
                        for (Item outer : earley.get(item.origin())) {
                            if (behindDot(outer) == lefts.get(item.p())) {
                                more.add(new Item(outer.p(), outer.dot() + 1, outer.origin()));
                            }
                        }
                    }
                }
                changed = items.addAll(more);
            }
        }

        int expected(int k) {
            if (k < 0 || k > text.size()) {
                return -1;
            }
            know();
            recognise();
            int set = 0;
            for (Item item : earley.get(k)) {
                int symbol = behindDot(item);
                if (symbol >= 0 && symbol < 10) {
                    set |= 1 << symbol;
                }
                if (symbol == -1 && item.origin() == 0 && lefts.get(item.p()) == 10) {
                    set |= 64;
                }
            }
            return set;
        }

        int errorAt() {
            if ((expected(text.size()) & 64) != 0) {
                return -1;
            }
            int k = -1;
            while (k < text.size() && !earley.get(k + 1).isEmpty()) {
                k++;
            }
            return k == -1 ? -2 : k;
        }

        // -- distances, by all the texts of the language that are not too long --

        private void speak() {
            know();
            if (!language.isEmpty()) {
                return;
            }
            int terminals = (int) rules.stream().flatMapToInt(Arrays::stream).filter(s -> s < 10).distinct().count();
            languageLength = terminals <= 1 ? 14 : terminals == 2 ? 7 : terminals == 3 ? 5 : 3;
            for (int n = 10; n <= 14; n++) {
                language.put(n, new HashSet<>());
            }
            boolean changed = true;
            while (changed) {
                changed = false;
                for (int p = 0; p < rules.size(); p++) {
                    changed |= language.get(lefts.get(p)).addAll(wordsOf(rules.get(p)));
                }
            }
        }

        private Set<List<Integer>> wordsOf(int[] right) {
            Set<List<Integer>> words = new HashSet<>(Set.of(List.of()));
            for (int symbol : right) {
                Set<List<Integer>> next = new HashSet<>();
                Set<List<Integer>> tails = symbol >= 10 ? language.get(symbol) : Set.of(List.of(symbol));
                for (List<Integer> word : words) {
                    for (List<Integer> tail : tails) {
                        if (word.size() + tail.size() <= languageLength) {
                            List<Integer> longer = new ArrayList<>(word);
                            longer.addAll(tail);
                            next.add(longer);
                        }
                    }
                }
                words = next;
            }
            return words;
        }

        private static int steps(List<Integer> from, List<Integer> to) {
            int[][] table = new int[from.size() + 1][to.size() + 1];
            for (int a = 0; a <= from.size(); a++) {
                for (int b = 0; b <= to.size(); b++) {
                    if (a == 0 || b == 0) {
                        table[a][b] = a + b;
                        continue;
                    }
                    int kept = table[a - 1][b - 1] + (from.get(a - 1).equals(to.get(b - 1)) ? 0 : 1);
                    table[a][b] = Math.min(kept, 1 + Math.min(table[a - 1][b], table[a][b - 1]));
                }
            }
            return table[from.size()][to.size()];
        }

        /** The least and the greatest distance that it may be: texts longer than those at hand are at least so far. */
        int[] distance(int n, int i, int j) {
            if (!isSpan(n, i, j) || !isProductive(n)) {
                return new int[] {-1, -1};
            }
            if (derives(n, i, j)) {
                return new int[] {0, 0};
            }
            speak();
            List<Integer> part = text.subList(i, j);
            int near = Integer.MAX_VALUE;
            for (List<Integer> word : language.get(n)) {
                near = Math.min(near, steps(part, word));
            }
            int beyond = Math.max(1, languageLength + 1 - part.size());
            return new int[] {Math.min(near, beyond), near};
        }
    }

    // ---- the runs ----

    private static int wrong = 0;
    private static int exactDistances = 0;

    private static final class Run {
        private final Random random;
        private final int seed;
        private final ChartParser x = new ChartParser();
        private final Model model = new Model();
        private final List<String> calls = new ArrayList<>();
        private final int terminals;
        private final int nonterminals;

        Run(int seed) {
            this.seed = seed;
            random = new Random(seed);
            terminals = 1 + random.nextInt(random.nextInt(3) == 0 ? 6 : 3);
            nonterminals = 1 + random.nextInt(5);
        }

        private void due(String call, long got, long want) {
            calls.add(call);
            if (got != want) {
                wrong++;
                System.out.println("seed " + seed + ": " + call + " answered " + got + ", due is " + want + " after " + calls);
            }
        }

        private int odd(int from, int to) {
            int[] others = {-2147483648, -2, -1, from - 1, to + 1, 2147483647};
            return random.nextInt(25) == 0 ? others[random.nextInt(others.length)] : from + random.nextInt(to - from + 1);
        }

        private int symbol() {
            if (random.nextInt(60) == 0) {
                return random.nextInt(20) - 3;
            }
            return random.nextInt(5) < 2 ? random.nextInt(terminals) : 10 + random.nextInt(nonterminals);
        }

        private void produce() {
            int size = random.nextInt(8) == 0 ? 0 : 1 + random.nextInt(3);
            int left = random.nextInt(40) == 0 ? odd(10, 14) : 10 + random.nextInt(nonterminals);
            int a = size > 0 ? symbol() : -1;
            int b = size > 1 ? symbol() : -1;
            int c = size > 2 || random.nextInt(60) == 0 ? symbol() : -1;
            if (size == 1 && random.nextInt(2) == 0) {
                a = random.nextInt(terminals);
            }
            due("produce(" + left + ", " + a + ", " + b + ", " + c + ")", x.produce(left, a, b, c), model.produce(left, a, b, c));
        }

        private void act() {
            int p = odd(0, Math.max(0, model.rules.size() - 1));
            int op = odd(0, 7);
            int[] some = {0, 1, -1, 2, 3, 2147483647, -2147483648, random.nextInt(), 1000000};
            int c = some[random.nextInt(some.length)];
            due("action(" + p + ", " + op + ", " + c + ")", x.action(p, op, c) ? 1 : 0, model.action(p, op, c) ? 1 : 0);
        }

        private int token() {
            return random.nextInt(20) == 0 ? odd(0, 5) : random.nextInt(terminals);
        }

        private void edit() {
            int size = model.text.size();
            int at = odd(0, size);
            int t = token();
            switch (random.nextInt(5)) {
                case 0:
                    due("erase(" + at + ")", x.erase(at) ? 1 : 0, model.erase(at) ? 1 : 0);
                    break;
                case 1:
                    due("set(" + at + ", " + t + ")", x.set(at, t) ? 1 : 0, model.set(at, t) ? 1 : 0);
                    break;
                default:
                    due("insert(" + at + ", " + t + ")", x.insert(at, t) ? 1 : 0, model.insert(at, t) ? 1 : 0);
            }
        }

        private void change() {
            int which = random.nextInt(10);
            if (which < 2) {
                produce();
            } else if (which < 3) {
                due("retract()", x.retract() ? 1 : 0, model.retract() ? 1 : 0);
            } else if (which < 5) {
                act();
            } else {
                edit();
            }
        }

        private void ask() {
            int size = model.text.size();
            int n = random.nextInt(3) == 0 ? 10 : odd(10, 14);
            int i = random.nextInt(3) == 0 ? 0 : odd(0, size);
            int j = random.nextInt(3) == 0 ? size : odd(0, size);
            int k = odd(0, size);
            String span = "(" + n + ", " + i + ", " + j + ")";
            switch (random.nextInt(10)) {
                case 0: due("derives" + span, x.derives(n, i, j) ? 1 : 0, model.derives(n, i, j) ? 1 : 0); break;
                case 1: due("trees" + span, x.trees(n, i, j), model.trees(n, i, j)); break;
                case 2: due("height" + span, x.height(n, i, j), model.height(n, i, j)); break;
                case 3: due("longest(" + n + ", " + i + ")", x.longest(n, i), model.longest(n, i)); break;
                case 4: due("value" + span, x.value(n, i, j), model.value(n, i, j)); break;
                case 5: k = odd(0, 12); due("node(" + k + ")", x.node(k), model.node(k)); break;
                case 6: askDistance(n, i, j); break;
                case 7: due("errorAt()", x.errorAt(), model.errorAt()); break;
                case 8: due("expected(" + k + ")", x.expected(k), model.expected(k)); break;
                default: due("traits(" + n + ")", x.traits(n), model.traits(n));
            }
        }

        private void askDistance(int n, int i, int j) {
            int[] bounds = model.distance(n, i, j);
            int got = x.distance(n, i, j);
            int want = Math.max(bounds[0], Math.min(bounds[1], got));
            exactDistances += bounds[0] == bounds[1] ? 1 : 0;
            due("distance(" + n + ", " + i + ", " + j + ")", got, want);
        }

        void run() {
            int first = 2 + random.nextInt(11);
            for (int k = 0; k < first; k++) {
                produce();
            }
            int tokens = random.nextInt(7);
            for (int k = 0; k < tokens; k++) {
                due("insert(0, .)", 1, 1);
                int t = random.nextInt(terminals);
                x.insert(0, t);
                model.insert(0, t);
            }
            int states = 3 + random.nextInt(6);
            for (int s = 0; s < states && calls.size() < MOST_CALLS; s++) {
                int questions = 5 + random.nextInt(40);
                for (int q = 0; q < questions && calls.size() < MOST_CALLS; q++) {
                    ask();
                }
                int changes = 1 + random.nextInt(3);
                for (int c = 0; c < changes; c++) {
                    change();
                }
            }
        }
    }

    public static void main(String[] args) {
        for (int seed = 0; seed < RUNS; seed++) {
            new Run(seed).run();
        }
        if (exactDistances < RUNS) {
            wrong++;
            System.out.println("only " + exactDistances + " distances were compared exactly");
        }
        System.out.println(wrong == 0 ? "all answers are as due" : wrong + " answers are not as due");
        if (wrong != 0) {
            System.exit(1);
        }
    }
}
