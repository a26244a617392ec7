import java.util.Arrays;

/**
 * Term rewriting that is shown to end: terms, rules, a path order and a weight order of terms, a
 * search for a precedence under which all rules lead to less, and the rewriting itself.
 *
 * A term is held as the row of its places in the order in which it is written. The parts of a
 * place stand behind it in that row, so each question is a loop over rows, and none a recursion.
 */
public final class TermOrders {
    private static final int MAX_SYMBOLS = 5;
    private static final int MAX_ARITY = 3;
    private static final int MAX_RANK = 4;
    /** In so many ways five symbols can have the ranks 0 .. 4, each one. */
    private static final int MAX_WAYS = 120;
    private static final int MAX_WEIGHT = 9;
    private static final int FIRST_WEIGHT = 1;
    private static final int VARIABLES = 4;
    private static final int VARIABLE_WEIGHT = 1;
    private static final int MAX_TERMS = 160;
    private static final int MAX_HEIGHT = 4;
    private static final int MAX_SIZE = 16;
    private static final int MAX_RULES = 8;
    private static final int PATH_ORDER = 0;
    private static final int WEIGHT_ORDER = 1;
    private static final int NONE = -1;

    private final Symbols symbols;
    private final Draft draft;
    private final Term[] terms;
    private final Rules rules;
    private final Orders orders;
    private int termCount;

    public TermOrders() {
        symbols = new Symbols();
        draft = new Draft(symbols);
        terms = new Term[MAX_TERMS];
        rules = new Rules();
        orders = new Orders(symbols);
        termCount = 0;
    }

    public int symbol(int arity) throws IllegalArgumentException, IllegalStateException {
        if (arity < 0 || arity > MAX_ARITY) {
            throw new IllegalArgumentException("an arity is 0 .. 3");
        }
        if (symbols.count == MAX_SYMBOLS) {
            throw new IllegalStateException("there are five symbols");
        }
        return symbols.add(arity);
    }

    public int variable(int v) throws IllegalArgumentException, IllegalStateException {
        if (v < 0 || v >= VARIABLES) {
            throw new IllegalArgumentException("variables are 0 .. 3");
        }
        draft.clear();
        draft.writeVariable(v);
        return keepDraft();
    }

    public int term(int s, int x, int y, int z)
            throws IllegalArgumentException, IllegalStateException {
        checkSymbol(s);
        draft.clear();
        draft.writeSymbol(s);
        int arity = symbols.arities[s];
        for (int k = 0; k < arity; k++) {
            Term part = termOf(k == 0 ? x : k == 1 ? y : z);
            draft.copyPlaces(part, 0, part.size);
        }
        return keepDraft();
    }

    public int rule(int left, int right) throws IllegalArgumentException, IllegalStateException {
        Term from = termOf(left);
        Term to = termOf(right);
        if (from.isVariable(0) || !from.hasAllVariablesOf(to)) {
            throw new IllegalArgumentException(
                    "a left term is no variable and has all variables of the right one");
        }
        if (rules.count == MAX_RULES) {
            throw new IllegalStateException("there are eight rules");
        }
        return rules.add(from, to);
    }

    public void order(int s, int rank, int weight) throws IllegalArgumentException {
        checkSymbol(s);
        if (rank < 0 || rank > MAX_RANK) {
            throw new IllegalArgumentException("a rank is 0 .. 4");
        }
        if (weight < 0 || weight > MAX_WEIGHT) {
            throw new IllegalArgumentException("a weight is 0 .. 9");
        }
        symbols.ranks[s] = rank;
        symbols.weights[s] = weight;
    }

    public int rank(int s) throws IllegalArgumentException {
        checkSymbol(s);
        return symbols.ranks[s];
    }

    public boolean greater(int order, int s, int t) throws IllegalArgumentException {
        checkOrder(order);
        return orders.isGreater(order, termOf(s), termOf(t));
    }

    public boolean same(int s, int t) throws IllegalArgumentException {
        return termOf(s).isSamePlace(0, termOf(t), 0);
    }

    public boolean admissible() {
        return symbols.haveAdmissibleWeights();
    }

    public int oriented(int order) throws IllegalArgumentException {
        checkOrder(order);
        int bits = 0;
        for (int r = 0; r < rules.count; r++) {
            if (orders.isGreater(order, rules.lefts[r], rules.rights[r])) {
                bits |= 1 << r;
            }
        }
        return bits;
    }

    public boolean search(int order) throws IllegalArgumentException {
        checkOrder(order);
        symbols.saveRanks();
        symbols.takeFirstRanks();
        boolean found = isOrientedAsDue(order);
        for (int way = 1; way < MAX_WAYS && !found && symbols.takeNextRanks(); way++) {
            found = isOrientedAsDue(order);
        }
        if (!found) {
            symbols.restoreRanks();
        }
        return found;
    }

    public int step(int t) throws IllegalArgumentException, IllegalStateException {
        boolean isRewritten = rules.writeStep(termOf(t), draft);
        return isRewritten ? keepDraft() : NONE;
    }

    public int about(int t, int what) throws IllegalArgumentException {
        Term term = termOf(t);
        switch (what) {
            case 0:
                return term.heads[0];
            case 1:
                return term.height;
            case 2:
                return term.size;
            case 3:
                return symbols.weightOfPlace(term, 0);
            default:
                throw new IllegalArgumentException("what is asked about a term is 0 .. 3");
        }
    }

    public int place(int t, int k) throws IllegalArgumentException, IndexOutOfBoundsException {
        Term term = termOf(t);
        if (k < 0 || k >= term.size) {
            throw new IndexOutOfBoundsException("the term has no such place");
        }
        return term.heads[k];
    }

    public int count(int what) {
        switch (what) {
            case 0:
                return symbols.count;
            case 1:
                return termCount;
            case 2:
                return rules.count;
            default:
                return NONE;
        }
    }

    private void checkSymbol(int s) {
        if (s < 0 || s >= symbols.count) {
            throw new IllegalArgumentException("there is no such symbol");
        }
    }

    private void checkOrder(int order) {
        if (order != PATH_ORDER && order != WEIGHT_ORDER) {
            throw new IllegalArgumentException("the orders are 0 and 1");
        }
    }

    private Term termOf(int t) {
        if (t < 0 || t >= termCount) {
            throw new IllegalArgumentException("there is no such term");
        }
        return terms[t];
    }

    /** The limits of a term come first: a term that cannot be is refused so even without room. */
    private int keepDraft() {
        if (!draft.isWithinLimits()) {
            throw new IllegalArgumentException("the term would be too high or too great");
        }
        if (termCount == MAX_TERMS) {
            throw new IllegalStateException("there are 160 terms");
        }
        terms[termCount] = draft.toTerm();
        termCount++;
        return termCount - 1;
    }

    /** Whether these ranks are such that a search may end with them. */
    private boolean isOrientedAsDue(int order) {
        if (order == WEIGHT_ORDER && !symbols.haveAdmissibleWeights()) {
            return false;
        }
        for (int r = 0; r < rules.count; r++) {
            if (!orders.isGreater(order, rules.lefts[r], rules.rights[r])) {
                return false;
            }
        }
        return true;
    }

    /** The symbols that are there, with their arities, ranks and weights. */
    private static final class Symbols {
        private final int[] arities = new int[MAX_SYMBOLS];
        private final int[] ranks = new int[MAX_SYMBOLS];
        private final int[] weights = new int[MAX_SYMBOLS];
        private final int[] savedRanks = new int[MAX_SYMBOLS];
        private int count = 0;

        private int add(int arity) {
            int s = count;
            arities[s] = arity;
            ranks[s] = s;
            weights[s] = FIRST_WEIGHT;
            count++;
            return s;
        }

        private void saveRanks() {
            System.arraycopy(ranks, 0, savedRanks, 0, MAX_SYMBOLS);
        }

        private void restoreRanks() {
            System.arraycopy(savedRanks, 0, ranks, 0, MAX_SYMBOLS);
        }

        private void takeFirstRanks() {
            for (int s = 0; s < count; s++) {
                ranks[s] = s;
            }
        }

        /**
         * Goes on to the next way to give the ranks, by symbol 0's rank, then by symbol 1's, and so
         * on, so that the first way that will do is the one due; false if there is no next one.
         */
        private boolean takeNextRanks() {
            int s = lastBelowItsNext();
            if (s == NONE) {
                return false;
            }
            swapRanks(s, lastAbove(s));
            for (int t = s + 1, u = count - 1; t < u; t++, u--) {
                swapRanks(t, u);
            }
            return true;
        }

        private int lastBelowItsNext() {
            for (int s = count - 2; s >= 0; s--) {
                if (isAbove(s + 1, s)) {
                    return s;
                }
            }
            return NONE;
        }

        /** The symbols behind s stand from high to low, so the last above s is the lowest such. */
        private int lastAbove(int s) {
            int t = count - 1;
            while (t > s && !isAbove(t, s)) {
                t--;
            }
            return t;
        }

        private void swapRanks(int s, int t) {
            int rank = ranks[s];
            ranks[s] = ranks[t];
            ranks[t] = rank;
        }

        private boolean isAbove(int s, int t) {
            return ranks[s] > ranks[t];
        }

        private boolean isAboveAllOthers(int s) {
            for (int t = 0; t < count; t++) {
                if (t != s && !isAbove(s, t)) {
                    return false;
                }
            }
            return true;
        }

        private boolean haveAdmissibleWeights() {
            for (int s = 0; s < count; s++) {
                if (weights[s] == 0 && !mayWeighNothing(s)) {
                    return false;
                }
            }
            return true;
        }

        private boolean mayWeighNothing(int s) {
            if (arities[s] == 0) {
                return false;
            }
            return arities[s] > 1 || isAboveAllOthers(s);
        }

        private int weightOfPlace(Term t, int p) {
            int weight = 0;
            for (int q = p; q < t.ends[p]; q++) {
                weight += t.isVariable(q) ? VARIABLE_WEIGHT : weights[t.heads[q]];
            }
            return weight;
        }
    }

    /**
     * A term as the rows of its places: what stands there (a symbol, or -1 - v for variable v), how
     * many parts it has, and the place behind its last one. Nothing of it changes once it is made.
     */
    private static final class Term {
        private final int[] heads;
        private final int[] partCounts;
        private final int[] ends;
        private final int size;
        private final int height;

        private Term(int[] heads, int[] partCounts, int[] ends, int height) {
            this.heads = heads;
            this.partCounts = partCounts;
            this.ends = ends;
            this.size = heads.length;
            this.height = height;
        }

        private boolean isVariable(int p) {
            return heads[p] < 0;
        }

        private int partOf(int p, int k) {
            int part = p + 1;
            for (int i = 0; i < k && part < size; i++) {
                part = ends[part];
            }
            return part;
        }

        private boolean isSamePlace(int p, Term t, int q) {
            int length = ends[p] - p;
            if (length != t.ends[q] - q) {
                return false;
            }
            for (int i = 0; i < length; i++) {
                if (heads[p + i] != t.heads[q + i]) {
                    return false;
                }
            }
            return true;
        }

        /** Which part of p is the first that is another term than q's in t; both have one symbol. */
        private int firstOtherPart(int p, Term t, int q) {
            for (int k = 0; k < partCounts[p]; k++) {
                if (!isSamePlace(partOf(p, k), t, t.partOf(q, k))) {
                    return k;
                }
            }
            return NONE;
        }

        private int countInPlace(int p, int head) {
            int found = 0;
            for (int q = p; q < ends[p]; q++) {
                if (heads[q] == head) {
                    found++;
                }
            }
            return found;
        }

        private boolean hasAllVariablesOf(Term t) {
            for (int q = 0; q < t.size; q++) {
                if (t.isVariable(q) && countInPlace(0, t.heads[q]) == 0) {
                    return false;
                }
            }
            return true;
        }

        private boolean hasEachVariableAsOften(int p, Term t, int q) {
            for (int v = 0; v < VARIABLES; v++) {
                if (countInPlace(p, -1 - v) < t.countInPlace(q, -1 - v)) {
                    return false;
                }
            }
            return true;
        }

        /** Whether place p is this variable with one symbol of arity 1 around it, once or oftener. */
        private boolean isVariableWithin(int p, int variable) {
            int last = ends[p] - 1;
            if (last == p || heads[last] != variable) {
                return false;
            }
            for (int q = p; q < last; q++) {
                if (partCounts[q] != 1 || heads[q] != heads[p]) {
                    return false;
                }
            }
            return true;
        }
    }

    /** A term while it is written; the same rows serve for each one, kept or refused. */
    private static final class Draft {
        private final Symbols symbols;
        private final int[] heads = new int[MAX_SIZE];
        private final int[] partCounts = new int[MAX_SIZE];
        private final int[] ends = new int[MAX_SIZE];
        private final int[] heights = new int[MAX_SIZE];
        private int size = 0;
        private boolean tooGreat = false;

        private Draft(Symbols symbols) {
            this.symbols = symbols;
        }

        private void clear() {
            size = 0;
            tooGreat = false;
        }

        private void writeVariable(int v) {
            write(-1 - v, 0);
        }

        private void writeSymbol(int s) {
            write(s, symbols.arities[s]);
        }

        private void write(int head, int partCount) {
            if (size == MAX_SIZE) {
                tooGreat = true;
                return;
            }
            heads[size] = head;
            partCounts[size] = partCount;
            size++;
        }

        private void copyPlaces(Term t, int from, int end) {
            for (int p = from; p < end; p++) {
                write(t.heads[p], t.partCounts[p]);
            }
        }

        private boolean isWithinLimits() {
            if (tooGreat) {
                return false;
            }
            for (int p = size - 1; p >= 0; p--) {
                measure(p);
            }
            return heights[0] <= MAX_HEIGHT;
        }

        private void measure(int p) {
            int part = p + 1;
            int height = 0;
            for (int k = 0; k < partCounts[p] && part < size; k++) {
                height = Math.max(height, heights[part] + 1);
                part = ends[part];
            }
            heights[p] = height;
            ends[p] = part;
        }

        private Term toTerm() {
            return new Term(Arrays.copyOf(heads, size), Arrays.copyOf(partCounts, size),
                    Arrays.copyOf(ends, size), heights[0]);
        }
    }

    /** The two orders of terms. */
    private static final class Orders {
        private final Symbols symbols;
        /** Of places p and q, at p * MAX_SIZE + q: whether p of s is greater than q of t by paths. */
        private final boolean[] pathGreater = new boolean[MAX_SIZE * MAX_SIZE];

        private Orders(Symbols symbols) {
            this.symbols = symbols;
        }

        private boolean isGreater(int order, Term s, Term t) {
            return order == PATH_ORDER ? isGreaterByPaths(s, t) : isGreaterByWeights(s, t);
        }

        /** From the last places to the first: then what a place asks about parts is known. */
        private boolean isGreaterByPaths(Term s, Term t) {
            for (int p = s.size - 1; p >= 0; p--) {
                for (int q = t.size - 1; q >= 0; q--) {
                    pathGreater[p * MAX_SIZE + q] = isPlaceGreaterByPaths(s, p, t, q);
                }
            }
            return pathGreater[0];
        }

        private boolean isPlaceGreaterByPaths(Term s, int p, Term t, int q) {
            if (hasPartNotBelow(s, p, t, q)) {
                return true;
            }
            if (s.isVariable(p) || t.isVariable(q) || !isGreaterThanParts(p, t, q)) {
                return false;
            }
            if (s.heads[p] != t.heads[q]) {
                return symbols.isAbove(s.heads[p], t.heads[q]);
            }
            int k = s.firstOtherPart(p, t, q);
            return k != NONE && pathGreater[s.partOf(p, k) * MAX_SIZE + t.partOf(q, k)];
        }

        private boolean hasPartNotBelow(Term s, int p, Term t, int q) {
            for (int k = 0; k < s.partCounts[p]; k++) {
                int part = s.partOf(p, k);
                if (pathGreater[part * MAX_SIZE + q] || s.isSamePlace(part, t, q)) {
                    return true;
                }
            }
            return false;
        }

        private boolean isGreaterThanParts(int p, Term t, int q) {
            for (int k = 0; k < t.partCounts[q]; k++) {
                if (!pathGreater[p * MAX_SIZE + t.partOf(q, k)]) {
                    return false;
                }
            }
            return true;
        }

        /** Goes down to the first parts that differ, while weights and symbols decide nothing. */
        private boolean isGreaterByWeights(Term s, Term t) {
            int p = 0;
            int q = 0;
            for (int depth = 0; depth <= MAX_HEIGHT; depth++) {
                if (!s.hasEachVariableAsOften(p, t, q)) {
                    return false;
                }
                int weight = symbols.weightOfPlace(s, p);
                int otherWeight = symbols.weightOfPlace(t, q);
                if (weight != otherWeight) {
                    return weight > otherWeight;
                }
                if (t.isVariable(q)) {
                    return s.isVariableWithin(p, t.heads[q]);
                }
                if (s.isVariable(p)) {
                    return false;
                }
                if (s.heads[p] != t.heads[q]) {
                    return symbols.isAbove(s.heads[p], t.heads[q]);
                }
                int k = s.firstOtherPart(p, t, q);
                if (k == NONE) {
                    return false;
                }
                p = s.partOf(p, k);
                q = t.partOf(q, k);
            }
            return false;
        }
    }

    /** The rules, and rewriting by them. */
    private static final class Rules {
        private final Term[] lefts = new Term[MAX_RULES];
        private final Term[] rights = new Term[MAX_RULES];
        /** For each variable of a rule the place that stands for it, or NONE. */
        private final int[] bound = new int[VARIABLES];
        private int count = 0;

        private int add(Term left, Term right) {
            lefts[count] = left;
            rights[count] = right;
            count++;
            return count - 1;
        }

        /** The last match before the first matched place ends: it has no match in its parts. */
        private int firstInnermostPlace(Term t) {
            int found = NONE;
            int end = t.size;
            for (int p = 0; p < t.size && p < end; p++) {
                if (leastMatchingRule(t, p) != NONE) {
                    found = p;
                    end = t.ends[p];
                }
            }
            return found;
        }

        private int leastMatchingRule(Term t, int p) {
            for (int r = 0; r < count; r++) {
                if (bindMatch(lefts[r], t, p)) {
                    return r;
                }
            }
            return NONE;
        }

        /** Leaves in bound what stands for the variables, if left matches place p of t. */
        private boolean bindMatch(Term left, Term t, int p) {
            Arrays.fill(bound, NONE);
            int q = p;
            for (int i = 0; i < left.size; i++) {
                if (q >= t.size) {
                    return false;
                }
                if (left.isVariable(i)) {
                    if (!bind(-1 - left.heads[i], t, q)) {
                        return false;
                    }
                    q = t.ends[q];
                } else if (left.heads[i] == t.heads[q]) {
                    q++;
                } else {
                    return false;
                }
            }
            return true;
        }

        private boolean bind(int v, Term t, int q) {
            if (bound[v] == NONE) {
                bound[v] = q;
                return true;
            }
            return t.isSamePlace(bound[v], t, q);
        }

        /** Writes what t becomes by one step; false, and nothing is written, if no rule matches. */
        private boolean writeStep(Term t, Draft draft) {
            int p = firstInnermostPlace(t);
            int r = p == NONE ? NONE : leastMatchingRule(t, p);
            if (r == NONE) {
                return false;
            }
            draft.clear();
            draft.copyPlaces(t, 0, p);
            writeBound(rights[r], t, draft);
            draft.copyPlaces(t, t.ends[p], t.size);
            return true;
        }

        private void writeBound(Term right, Term t, Draft draft) {
            for (int i = 0; i < right.size; i++) {
                int place = right.isVariable(i) ? bound[-1 - right.heads[i]] : NONE;
                if (place == NONE) {
                    draft.write(right.heads[i], right.partCounts[i]);
                } else {
                    draft.copyPlaces(t, place, t.ends[place]);
                }
            }
        }
    }
}
