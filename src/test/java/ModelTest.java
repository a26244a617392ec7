import java.util.ArrayList;
import java.util.Arrays;
import java.util.Collections;
import java.util.HashMap;
import java.util.HashSet;
import java.util.List;
import java.util.Map;
import java.util.Set;

/**
 * Long runs of calls that come from fixed numbers, on an object and on a model. The model holds
 * trees and asks every question by recursion, word for word as the document says it.
 */
public final class ModelTest {
    private static final int RUNS = 600;
    /** An object answers no more calls than these; the last ones look at what the others left. */
    private static final int CALLS = 512;
    private static final int LOOKS = 64;
    private static int wrong = 0;

    /** A term as a tree; head is a symbol, or -1 - v for variable v. */
    private record Tree(int head, List<Tree> parts) {
        boolean isVariable() {
            return head < 0;
        }

        int height() {
            int height = 0;
            for (Tree part : parts) {
                height = Math.max(height, 1 + part.height());
            }
            return height;
        }

        List<Tree> places() {
            List<Tree> all = new ArrayList<>();
            all.add(this);
            for (Tree part : parts) {
                all.addAll(part.places());
            }
            return all;
        }

        int count(int variable) {
            int found = 0;
            for (Tree place : places()) {
                found += place.head == variable ? 1 : 0;
            }
            return found;
        }

        Set<Integer> variables() {
            Set<Integer> all = new HashSet<>();
            for (Tree place : places()) {
                if (place.isVariable()) {
                    all.add(place.head);
                }
            }
            return all;
        }

        Tree with(Map<Integer, Tree> terms) {
            if (isVariable()) {
                return terms.get(head);
            }
            List<Tree> changed = new ArrayList<>();
            for (Tree part : parts) {
                changed.add(part.with(terms));
            }
            return new Tree(head, changed);
        }
    }

    private record Rule(Tree left, Tree right) {
    }

    private static final class Model {
        private final List<Integer> arities = new ArrayList<>();
        private final List<Integer> ranks = new ArrayList<>();
        private final List<Integer> weights = new ArrayList<>();
        private final List<Tree> terms = new ArrayList<>();
        private final List<Rule> rules = new ArrayList<>();

        private static void refuse(boolean isWrong) {
            if (isWrong) {
                throw new IllegalArgumentException();
            }
        }

        private static void refuseState(boolean isFull) {
            if (isFull) {
                throw new IllegalStateException();
            }
        }

        private Tree tree(int t) {
            refuse(t < 0 || t >= terms.size());
            return terms.get(t);
        }

        private void needSymbol(int s) {
            refuse(s < 0 || s >= arities.size());
        }

        private int keep(Tree tree) {
            refuse(tree.height() > 4 || tree.places().size() > 16);
            refuseState(terms.size() >= 160);
            terms.add(tree);
            return terms.size() - 1;
        }

        int symbol(int arity) {
            refuse(arity < 0 || arity > 3);
            refuseState(arities.size() >= 5);
            arities.add(arity);
            ranks.add(ranks.size());
            weights.add(1);
            return arities.size() - 1;
        }

        int variable(int v) {
            refuse(v < 0 || v > 3);
            return keep(new Tree(-1 - v, List.of()));
        }

        int term(int s, int x, int y, int z) {
            needSymbol(s);
            List<Tree> parts = new ArrayList<>();
            int[] numbers = {x, y, z};
            for (int k = 0; k < arities.get(s); k++) {
                parts.add(tree(numbers[k]));
            }
            return keep(new Tree(s, parts));
        }

        int rule(int left, int right) {
            Rule rule = new Rule(tree(left), tree(right));
            refuse(rule.left.isVariable());
            refuse(!rule.left.variables().containsAll(rule.right.variables()));
            refuseState(rules.size() >= 8);
            rules.add(rule);
            return rules.size() - 1;
        }

        int order(int s, int rank, int weight) {
            needSymbol(s);
            refuse(rank < 0 || rank > 4 || weight < 0 || weight > 9);
            ranks.set(s, rank);
            weights.set(s, weight);
            return 0;
        }

        int rank(int s) {
            needSymbol(s);
            return ranks.get(s);
        }

        int greater(int order, int s, int t) {
            refuse(order != 0 && order != 1);
            return isGreater(order, tree(s), tree(t)) ? 1 : 0;
        }

        private boolean isGreater(int order, Tree s, Tree t) {
            return order == 0 ? pathGreater(s, t) : weightGreater(s, t);
        }

        private boolean isAbove(Tree s, Tree t) {
            return !s.isVariable() && !t.isVariable() && ranks.get(s.head) > ranks.get(t.head);
        }

        private boolean pathGreater(Tree s, Tree t) {
            if (s.isVariable()) {
                return false;
            }
            for (Tree part : s.parts) {
                if (part.equals(t) || pathGreater(part, t)) {
                    return true;
                }
            }
            if (!isAbove(s, t) && s.head != t.head) {
                return false;
            }
            for (Tree part : t.parts) {
                if (!pathGreater(s, part)) {
                    return false;
                }
            }
            if (isAbove(s, t)) {
                return true;
            }
            int k = firstOther(s, t);
            return k >= 0 && pathGreater(s.parts.get(k), t.parts.get(k));
        }

        private static int firstOther(Tree s, Tree t) {
            for (int k = 0; k < s.parts.size(); k++) {
                if (!s.parts.get(k).equals(t.parts.get(k))) {
                    return k;
                }
            }
            return -1;
        }

        private int weight(Tree t) {
            if (t.isVariable()) {
                return 1;
            }
            int weight = weights.get(t.head);
            for (Tree part : t.parts) {
                weight += weight(part);
            }
            return weight;
        }

        private static boolean isWrapped(Tree s, Tree variable, int symbol) {
            if (s.head != symbol || s.parts.size() != 1) {
                return false;
            }
            Tree part = s.parts.get(0);
            return part.equals(variable) || isWrapped(part, variable, symbol);
        }

        private boolean weightGreater(Tree s, Tree t) {
            for (int v = 0; v < 4; v++) {
                if (t.count(-1 - v) > s.count(-1 - v)) {
                    return false;
                }
            }
            if (weight(s) > weight(t)) {
                return true;
            }
            if (weight(s) < weight(t)) {
                return false;
            }
            if (t.isVariable() && isWrapped(s, t, s.head)) {
                return true;
            }
            if (isAbove(s, t)) {
                return true;
            }
            if (s.isVariable() || s.head != t.head) {
                return false;
            }
            int k = firstOther(s, t);
            return k >= 0 && weightGreater(s.parts.get(k), t.parts.get(k));
        }

        int same(int s, int t) {
            return tree(s).equals(tree(t)) ? 1 : 0;
        }

        int admissible() {
            for (int s = 0; s < arities.size(); s++) {
                if (arities.get(s) == 0 && weights.get(s) <= 0) {
                    return 0;
                }
                if (arities.get(s) == 1 && weights.get(s) == 0) {
                    for (int t = 0; t < arities.size(); t++) {
                        if (t != s && ranks.get(t) >= ranks.get(s)) {
                            return 0;
                        }
                    }
                }
            }
            return 1;
        }

        int oriented(int order) {
            refuse(order != 0 && order != 1);
            int bits = 0;
            for (int r = 0; r < rules.size(); r++) {
                if (isGreater(order, rules.get(r).left, rules.get(r).right)) {
                    bits += 1 << r;
                }
            }
            return bits;
        }

        int search(int order) {
            refuse(order != 0 && order != 1);
            List<Integer> before = new ArrayList<>(ranks);
            for (List<Integer> way : waysInOrder(arities.size())) {
                Collections.copy(ranks, way);
                if (oriented(order) == (1 << rules.size()) - 1
                        && (order == 0 || admissible() == 1)) {
                    return 1;
                }
            }
            Collections.copy(ranks, before);
            return 0;
        }

        /** All numbers to the base n, least first, whose digits are all different. */
        private static List<List<Integer>> waysInOrder(int n) {
            List<List<Integer>> ways = new ArrayList<>();
            int codes = 1;
            for (int i = 0; i < n; i++) {
                codes *= n;
            }
            for (int code = 0; code < codes; code++) {
                Integer[] digits = new Integer[n];
                int rest = code;
                for (int i = n - 1; i >= 0; i--) {
                    digits[i] = rest % n;
                    rest /= n;
                }
                if (new HashSet<>(Arrays.asList(digits)).size() == n) {
                    ways.add(Arrays.asList(digits));
                }
            }
            return ways;
        }

        int step(int t) {
            Tree whole = tree(t);
            Tree next = rewritten(whole);
            return next == null ? -1 : keep(next);
        }

        /** What a tree becomes by a step, or null. */
        private Tree rewritten(Tree t) {
            for (int k = 0; k < t.parts.size(); k++) {
                Tree changed = rewritten(t.parts.get(k));
                if (changed != null) {
                    List<Tree> parts = new ArrayList<>(t.parts);
                    parts.set(k, changed);
                    return new Tree(t.head, parts);
                }
            }
            for (Rule rule : rules) {
                Map<Integer, Tree> found = new HashMap<>();
                if (matches(rule.left, t, found)) {
                    return rule.right.with(found);
                }
            }
            return null;
        }

        private static boolean matches(Tree left, Tree t, Map<Integer, Tree> found) {
            if (left.isVariable()) {
                Tree earlier = found.putIfAbsent(left.head, t);
                return earlier == null || earlier.equals(t);
            }
            if (left.head != t.head) {
                return false;
            }
            for (int k = 0; k < left.parts.size(); k++) {
                if (!matches(left.parts.get(k), t.parts.get(k), found)) {
                    return false;
                }
            }
            return true;
        }

        int about(int t, int what) {
            Tree tree = tree(t);
            refuse(what < 0 || what > 3);
            int[] answers = {tree.head, tree.height(), tree.places().size(), weight(tree)};
            return answers[what];
        }

        int place(int t, int k) {
            List<Tree> places = tree(t).places();
            if (k < 0 || k >= places.size()) {
                throw new IndexOutOfBoundsException();
            }
            return places.get(k).head;
        }

        int count(int what) {
            int[] counts = {arities.size(), terms.size(), rules.size()};
            return what < 0 || what > 2 ? -1 : counts[what];
        }
    }

    /** Numbers that follow from a first one, the same in every run of the test. */
    private static final class Numbers {
        private long state;

        private Numbers(long first) {
            state = first;
        }

        int below(int bound) {
            state = state * 6364136223846793005L + 1442695040888963407L;
            return (int) ((state >>> 33) % bound);
        }

        /** Mostly 0 .. bound - 1; now and then just outside, or far. */
        int about(int bound) {
            int way = below(40);
            if (way == 0 || bound == 0) {
                return bound;
            }
            return way == 1 ? -1 : way == 2 && below(8) == 0 ? Integer.MIN_VALUE : below(bound);
        }
    }

    private static int bit(boolean b) {
        return b ? 1 : 0;
    }

    private static int ordered(TermOrders x, int[] a) {
        x.order(a[0], a[1], a[2]);
        return 0;
    }

    private static final String[] NAMES = {"symbol", "variable", "term", "rule", "order", "rank",
        "greater", "same", "admissible", "oriented", "search", "step", "about", "place", "count"};

    private static int onObject(TermOrders x, int call, int[] a) {
        return switch (call) {
            case 0 -> x.symbol(a[0]);
            case 1 -> x.variable(a[0]);
            case 2 -> x.term(a[0], a[1], a[2], a[3]);
            case 3 -> x.rule(a[0], a[1]);
            case 4 -> ordered(x, a);
            case 5 -> x.rank(a[0]);
            case 6 -> bit(x.greater(a[0], a[1], a[2]));
            case 7 -> bit(x.same(a[0], a[1]));
            case 8 -> bit(x.admissible());
            case 9 -> x.oriented(a[0]);
            case 10 -> bit(x.search(a[0]));
            case 11 -> x.step(a[0]);
            case 12 -> x.about(a[0], a[1]);
            case 13 -> x.place(a[0], a[1]);
            default -> x.count(a[0]);
        };
    }

    private static int onModel(Model m, int call, int[] a) {
        return switch (call) {
            case 0 -> m.symbol(a[0]);
            case 1 -> m.variable(a[0]);
            case 2 -> m.term(a[0], a[1], a[2], a[3]);
            case 3 -> m.rule(a[0], a[1]);
            case 4 -> m.order(a[0], a[1], a[2]);
            case 5 -> m.rank(a[0]);
            case 6 -> m.greater(a[0], a[1], a[2]);
            case 7 -> m.same(a[0], a[1]);
            case 8 -> m.admissible();
            case 9 -> m.oriented(a[0]);
            case 10 -> m.search(a[0]);
            case 11 -> m.step(a[0]);
            case 12 -> m.about(a[0], a[1]);
            case 13 -> m.place(a[0], a[1]);
            default -> m.count(a[0]);
        };
    }

    /** How often each call comes, of 100: while terms are made, when many are there, at the end. */
    private static final int[] MAKING = {3, 4, 30, 8, 4, 2, 14, 3, 2, 4, 2, 14, 4, 4, 2};
    private static final int[] ASKING = {1, 1, 6, 5, 8, 3, 28, 6, 4, 6, 3, 16, 5, 5, 3};
    private static final int[] LOOKING = {0, 0, 0, 0, 0, 15, 0, 5, 3, 5, 0, 0, 30, 35, 7};

    private static int chosenCall(Numbers numbers, int run, int i) {
        int symbolsFirst = 1 + run % 5;
        if (i < symbolsFirst + 2) {
            return i < symbolsFirst ? 0 : 1;
        }
        int making = run % 3 == 0 ? 400 : 100;
        return chosenOf(i < making ? MAKING : i < CALLS - LOOKS ? ASKING : LOOKING, numbers);
    }

    private static int chosenOf(int[] shares, Numbers numbers) {
        int rest = numbers.below(100);
        for (int call = 0; call < shares.length; call++) {
            rest -= shares[call];
            if (rest < 0) {
                return call;
            }
        }
        return shares.length - 1;
    }

    private static int[] chosenArguments(Numbers n, Model m, int call) {
        int symbols = m.arities.size();
        int terms = m.terms.size();
        int light = n.below(3) == 0 ? 10 : 2;
        return switch (call) {
            case 0 -> new int[] {n.about(4)};
            case 1 -> new int[] {n.about(n.below(2) == 0 ? 2 : 4)};
            case 2 -> new int[] {n.about(symbols), n.about(terms), n.about(terms), n.about(terms)};
            case 3 -> new int[] {n.about(n.below(2) == 0 ? terms : Math.min(terms, 12)),
                n.about(terms)};
            case 4 -> new int[] {n.about(symbols), n.about(5), n.about(light)};
            case 5 -> new int[] {n.about(symbols)};
            case 6 -> new int[] {n.about(2), n.about(terms), n.about(terms)};
            case 7 -> new int[] {n.about(terms), n.about(terms)};
            case 8 -> new int[0];
            case 9, 10 -> new int[] {n.about(2)};
            case 11 -> new int[] {n.about(terms)};
            case 12 -> new int[] {n.about(terms), n.about(4)};
            case 13 -> new int[] {n.about(terms), n.about(n.below(2) == 0 ? 3 : 16)};
            default -> new int[] {n.about(3)};
        };
    }

    private interface Answer {
        int of();
    }

    private static String told(Answer answer) {
        try {
            return Integer.toString(answer.of());
        } catch (RuntimeException e) {
            return "throws." + e.getClass().getSimpleName();
        }
    }

    private static final Map<String, Integer> SEEN = new HashMap<>();

    private static boolean isRunAsDue(int run) {
        Numbers numbers = new Numbers(run * 7919L + 17);
        TermOrders x = new TermOrders();
        Model m = new Model();
        for (int i = 0; i < CALLS; i++) {
            int call = chosenCall(numbers, run, i);
            int[] a = chosenArguments(numbers, m, call);
            String got = told(() -> onObject(x, call, a));
            String want = told(() -> onModel(m, call, a));
            SEEN.merge(NAMES[call] + (want.startsWith("throws") ? " " + want : call == 11
                    && want.equals("-1") ? " -1" : ""), 1, Integer::sum);
            if (!got.equals(want)) {
                System.out.println("run " + run + ", call " + i + ": " + NAMES[call]
                        + Arrays.toString(a) + " answered " + got + ", due is " + want);
                return false;
            }
        }
        return true;
    }

    public static void main(String[] args) {
        for (int run = 0; run < RUNS; run++) {
            if (!isRunAsDue(run)) {
                wrong++;
            }
        }
        if (args.length > 0) {
            System.out.println(new java.util.TreeMap<>(SEEN).toString().replace(", ", "\n"));
        }
        System.out.println(wrong == 0 ? "all runs are as due" : wrong + " runs are not as due");
        if (wrong != 0) {
            System.exit(1);
        }
    }
}
