import java.util.Arrays;

/** The boundaries of ranks and weights, of the two orders, and of the search. */
public final class OrderBoundaryTest extends Boundaries {
    // The path order. Ranks are all the same where only a part may lead to greater.

    private static void pathPartThatIsTheOther() {
        Run x = ordinary();
        sameRanks(x);
        for (int v = 0; v <= 2; v++) {
            x.due(true, "greater", PATH, H_TERM, v);
            x.due(false, "greater", PATH, v, H_TERM);
        }
        x.due(false, "greater", PATH, H_TERM, 3);
        for (int times = 0; times <= 4; times++) {
            x.due(times > 0, "greater", PATH, x.wrapped(F, times, 3), 3);
        }
    }

    private static void pathPartThatIsGreater() {
        Run x = ordinary();
        sameRanks(x);
        for (int place = 0; place <= 2; place++) {
            int t = (Integer) x.ask("term", termWithPartAt(H, place, F_TERM));
            x.due(true, "greater", PATH, t, 0);
            x.due(true, "greater", PATH, t, CONSTANT);
            x.due(false, "greater", PATH, t, 1);
            x.due(false, "greater", PATH, t, t);
        }
    }

    /** K is above all; K(H_TERM) is greater than the variables 0 .. 2, and not than 3. */
    private static void pathAboveAndGreaterThanEachPart() {
        Run x = ordinary();
        int k = x.term(K, H_TERM);
        x.due(true, "greater", PATH, k, CONSTANT);
        x.due(true, "greater", PATH, k, x.term(F, 2));
        x.due(false, "greater", PATH, k, x.term(F, 3));
        x.due(true, "greater", PATH, k, x.term(G, 2, 1));
        x.due(false, "greater", PATH, k, x.term(G, 3, 1));
        x.due(false, "greater", PATH, k, x.term(G, 2, 3));
        x.due(true, "greater", PATH, k, x.term(H, 2, 1, 0));
        x.due(false, "greater", PATH, k, x.term(H, 3, 1, 0));
        x.due(false, "greater", PATH, k, x.term(H, 2, 3, 0));
        x.due(false, "greater", PATH, k, x.term(H, 2, 1, 3));
        x.due(false, "greater", PATH, k, 3);
    }

    private static void pathSameSymbolFirstOtherPart() {
        Run x = ordinary();
        sameRanks(x);
        for (int place = 0; place <= 2; place++) {
            int[] parts = {0, 1, 2};
            parts[place] = x.term(F, place);
            int greater = x.term(H, parts);
            x.due(true, "greater", PATH, greater, H_TERM);
            x.due(false, "greater", PATH, H_TERM, greater);
            x.due(false, "greater", PATH, greater, greater);
        }
        x.due(false, "greater", PATH, CONSTANT, CONSTANT);
    }

    /** The first other part is greater, and one of the later parts is not less than all of s. */
    private static void pathSameSymbolGreaterThanEachPart() {
        Run x = ordinary();
        sameRanks(x);
        int s = x.term(H, F_TERM, 1, 2);
        int f1 = x.term(F, 1);
        x.due(true, "greater", PATH, s, x.term(H, 0, 2, 1));
        x.due(true, "greater", PATH, s, x.term(H, 0, 2, F_TERM));
        x.due(false, "greater", PATH, s, x.term(H, 0, 1, 3));
        x.due(false, "greater", PATH, s, x.term(H, 0, 3, 2));
        x.due(false, "greater", PATH, s, x.term(H, 0, f1, 2));
        x.order(H, 1, 1);
        x.due(true, "greater", PATH, s, x.term(H, 0, f1, 2));
    }

    private static void pathSameRanksLeadToNothing() {
        Run x = ordinary();
        int k = x.term(K, 0);
        for (int rank = 0; rank <= 4; rank++) {
            x.order(F, rank, 1);
            x.order(K, rank, 1);
            x.due(false, "greater", PATH, F_TERM, k);
            x.due(false, "greater", PATH, k, F_TERM);
        }
        x.due(true, "greater", PATH, x.term(F, k), k);
        x.due(true, "greater", PATH, x.term(K, F_TERM), F_TERM);
    }

    private static void pathVariableIsGreaterThanNothing() {
        Run x = ordinary();
        for (int v = 0; v <= 3; v++) {
            for (int t = 0; t <= H_TERM; t++) {
                x.due(false, "greater", PATH, v, t);
            }
        }
        weights(x, 0, 0, 0, 0, 0);
        x.due(false, "greater", PATH, 0, CONSTANT);
    }

    // The weight order.

    private static void weightIs1ForAVariable() {
        Run x = ordinary();
        for (int weight = 0; weight <= 9; weight++) {
            weights(x, weight, weight, weight, weight, weight);
            for (int v = 0; v <= 3; v++) {
                x.due(1, "about", v, 3);
            }
            x.due(weight + 1, "about", F_TERM, 3);
            x.due(weight + 3, "about", H_TERM, 3);
        }
    }

    private static void weightOfNoVariableMoreOften() {
        for (int v = 0; v <= 3; v++) {
            Run x = ordinary();
            weights(x, 1, 1, 1, 0, 9);
            int other = (v + 1) % 4;
            int twice = x.term(K, x.term(G, v, v));
            x.due(true, "greater", WEIGHT, twice, CONSTANT);
            x.due(true, "greater", WEIGHT, twice, x.term(G, v, CONSTANT));
            x.due(true, "greater", WEIGHT, twice, x.term(G, v, v));
            x.due(false, "greater", WEIGHT, twice, x.term(H, v, v, v));
            x.due(false, "greater", WEIGHT, twice, x.term(G, v, other));
            x.due(false, "greater", WEIGHT, twice, other);
            x.due(false, "greater", WEIGHT, x.term(K, CONSTANT), v);
        }
    }

    private static void weightThatIsGreater() {
        Run x = withConstants(2);
        for (int weight = 0; weight <= 9; weight++) {
            for (int other = Math.max(0, weight - 1); other <= Math.min(9, weight + 1); other++) {
                x.order(0, 2, weight);
                x.order(1, 2, other);
                x.due(weight > other, "greater", WEIGHT, 0, 1);
                x.due(other > weight, "greater", WEIGHT, 1, 0);
            }
        }
    }

    /** As the sentence says no more than this: the greater weight is enough for a variable too. */
    private static void weightOfAVariableThatIsGreater() {
        Run x = ordinary();
        for (int weight = 0; weight <= 2; weight++) {
            x.order(C, 0, weight);
            x.due(weight == 0, "greater", WEIGHT, 0, CONSTANT);
            x.due(false, "greater", WEIGHT, CONSTANT, 0);
        }
        for (int v = 0; v <= 3; v++) {
            x.due(false, "greater", WEIGHT, 0, v);
        }
    }

    private static void weightSameAroundAVariable() {
        for (int v = 0; v <= 3; v++) {
            Run x = ordinary();
            weights(x, 0, 0, 0, 0, 0);
            for (int times = 0; times <= 4; times++) {
                x.due(times > 0, "greater", WEIGHT, x.wrapped(F, times, v), v);
            }
            x.due(false, "greater", WEIGHT, x.wrapped(F, 1, (v + 1) % 4), v);
            x.due(false, "greater", WEIGHT, v, x.wrapped(F, 1, v));
        }
    }

    private static void weightSameAroundAVariableByOtherSymbols() {
        Run x = ordinary();
        weights(x, 0, 0, 0, 0, 0);
        x.due(true, "greater", WEIGHT, x.wrapped(K, 3, 0), 0);
        x.due(false, "greater", WEIGHT, x.term(K, F_TERM), 0);
        x.due(false, "greater", WEIGHT, x.wrapped(F, 2, x.term(K, 0)), 0);
        x.due(false, "greater", WEIGHT, x.wrapped(K, 1, x.wrapped(F, 2, 0)), 0);
        x.due(false, "greater", WEIGHT, x.term(G, 0, CONSTANT), 0);
        x.due(false, "greater", WEIGHT, x.term(G, CONSTANT, 0), 0);
        x.due(false, "greater", WEIGHT, x.term(H, CONSTANT, CONSTANT, 0), 0);
        x.due(false, "greater", WEIGHT, x.term(F, x.term(G, CONSTANT, 0)), 0);
    }

    private static void weightSameSymbolAbove() {
        Run x = ordinary();
        int k = x.term(K, 0);
        x.due(true, "greater", WEIGHT, k, F_TERM);
        x.due(false, "greater", WEIGHT, F_TERM, k);
        x.due(false, "greater", WEIGHT, k, x.term(F, 1));
        x.order(K, 1, 1);
        x.due(false, "greater", WEIGHT, k, F_TERM);
        x.due(false, "greater", WEIGHT, F_TERM, k);
        x.order(C, 4, 1);
        x.due(false, "greater", WEIGHT, 0, CONSTANT);
        x.due(false, "greater", WEIGHT, CONSTANT, 0);
    }

    /** Constants 0 and 1 weigh the same, 1 is above 0; the triples differ first at place p. */
    private static void weightSameFirstOtherPart() {
        Run x = Run.withSymbols(0, 0, 3);
        int a = x.term(0);
        int b = x.term(1);
        int low = x.term(2, a, a, a);
        for (int place = 0; place <= 2; place++) {
            int[] parts = {a, a, a};
            parts[place] = b;
            int high = x.term(2, parts);
            x.due(true, "greater", WEIGHT, high, low);
            x.due(false, "greater", WEIGHT, low, high);
            x.due(false, "greater", WEIGHT, high, high);
        }
        int first = x.term(2, a, b, a);
        int second = x.term(2, a, a, b);
        x.due(true, "greater", WEIGHT, first, second);
        x.due(false, "greater", WEIGHT, second, first);
        x.due(true, "greater", WEIGHT, first, x.term(2, a, a, a));
    }

    /** What differs stands at one height after the other, at last below four equal symbols. */
    private static void weightSameFirstOtherPartWithin() {
        Run x = Run.withSymbols(0, 0, 1);
        int low = x.term(0);
        int high = x.term(1);
        for (int depth = 0; depth <= 4; depth++) {
            int less = x.wrapped(2, depth, low);
            int more = x.wrapped(2, depth, high);
            x.due(true, "greater", WEIGHT, more, less);
            x.due(false, "greater", WEIGHT, less, more);
        }
    }

    /** The first other part of s weighs more, but it lacks a variable that t's has. */
    private static void weightSameFirstOtherPartLacksAVariable() {
        Run x = ordinary();
        int s = x.term(G, x.wrapped(F, 2, CONSTANT), 0);
        int t = x.term(G, F_TERM, x.term(F, CONSTANT));
        x.due(false, "greater", WEIGHT, s, t);
        x.due(false, "greater", WEIGHT, t, s);
    }

    // "The weights are ADMISSIBLE .."

    private static void admissibleConstantsWeighMoreThan0() {
        for (int s = 0; s <= 4; s++) {
            Run x = Run.withSymbols(0, 0, 0, 0, 0);
            for (int weight = 0; weight <= 9; weight++) {
                x.order(s, 4, weight);
                x.due(weight > 0, "admissible");
            }
        }
    }

    private static void admissibleArity1OfWeight0IsAboveAllOthers() {
        for (int other = 0; other <= 3; other++) {
            Run x = Run.withSymbols(other, 1);
            for (int rank = 0; rank <= 4; rank++) {
                for (int otherRank = 0; otherRank <= 4; otherRank++) {
                    x.order(0, otherRank, 1);
                    x.order(1, rank, 0);
                    x.due(rank > otherRank, "admissible");
                }
            }
            x.order(0, 4, 1);
            x.order(1, 0, 1);
            x.due(true, "admissible");
        }
    }

    private static void admissibleAsksOnlySymbolsThatAreThere() {
        Run x = Run.withSymbols(1);
        x.order(0, 0, 0);
        x.due(true, "admissible");
        x.symbol(3);
        x.due(false, "admissible");
        x.order(0, 2, 0);
        x.due(true, "admissible");
        x.symbol(2);
        x.due(false, "admissible");
        x.order(0, 4, 0);
        x.due(true, "admissible");
        x.symbol(0);
        x.due(true, "admissible");
        x.symbol(0);
        x.due(false, "admissible");
    }

    private static void admissibleNeverWithTwoOfArity1AndWeight0() {
        Run x = Run.withSymbols(1, 1);
        for (int rank = 0; rank <= 4; rank++) {
            for (int other = 0; other <= 4; other++) {
                x.order(0, rank, 0);
                x.order(1, other, 0);
                x.due(false, "admissible");
            }
        }
    }

    private static void admissibleArities2And3MayWeigh0() {
        Run x = Run.withSymbols(2, 3, 0, 1);
        x.order(0, 0, 0);
        x.order(1, 4, 0);
        x.due(true, "admissible");
        x.order(0, 4, 0);
        x.order(1, 0, 0);
        x.due(true, "admissible");
    }

    private static void orientedOnlyIfGreater() {
        Run x = ordinary();
        x.rule(F_TERM, F_TERM);
        x.rule(CONSTANT, CONSTANT);
        x.rule(F_TERM, 0);
        x.rule(F_TERM, x.term(F, F_TERM));
        for (int order : ORDERS) {
            x.due(0b0100, "oriented", order);
        }
    }

    // "Promise 6" and "Promise 7"

    private static void orderThrowsForNoSuchSymbol() {
        for (int symbols = 0; symbols <= 5; symbols++) {
            Run x = withConstants(symbols);
            for (int s : Run.outside(0, symbols - 1)) {
                x.refused(ARGUMENT, "order", s, 3, 5);
            }
        }
    }

    /** A rank that is refused leaves the weight that comes with it aside as well. */
    private static void orderThrowsForARankThatIsNone() {
        Run x = ordinary();
        for (int rank : Run.outside(0, 4)) {
            x.refused(ARGUMENT, "order", C, rank, 9);
            x.refused(ARGUMENT, "order", K, rank, 0);
        }
        x.order(C, 4, 9);
        x.due(4, "rank", C);
        x.due(9, "about", CONSTANT, 3);
    }

    private static void orderThrowsForAWeightThatIsNone() {
        Run x = ordinary();
        for (int weight : Run.outside(0, 9)) {
            x.refused(ARGUMENT, "order", C, 4, weight);
            x.refused(ARGUMENT, "order", K, 0, weight);
        }
        x.order(C, 0, 0);
        x.due(0, "rank", C);
        x.due(0, "about", CONSTANT, 3);
        x.order(C, 4, 0);
        x.due(4, "rank", C);
        x.order(C, 0, 9);
        x.due(9, "about", CONSTANT, 3);
    }

    private static void rankThrowsForNoSuchSymbol() {
        for (int symbols = 0; symbols <= 5; symbols++) {
            Run x = withConstants(symbols);
            for (int s : Run.outside(0, symbols - 1)) {
                x.refused(ARGUMENT, "rank", s);
            }
            if (symbols > 0) {
                x.due(symbols - 1, "rank", symbols - 1);
            }
        }
    }

    // "Promise 8" and "Promise 9"

    private static void greaterThrowsForNoSuchOrder() {
        Run x = ordinary();
        for (int none : Run.outside(0, 1)) {
            x.refused(ARGUMENT, "greater", none, F_TERM, 0);
        }
        x.due(true, "greater", 0, F_TERM, 0);
        x.due(true, "greater", 1, F_TERM, 0);
    }

    private static void greaterThrowsForNoSuchTerm() {
        Run x = ordinary();
        for (int order : ORDERS) {
            for (int none : Run.outside(0, 7)) {
                x.refused(ARGUMENT, "greater", order, none, 0);
                x.refused(ARGUMENT, "greater", order, F_TERM, none);
            }
            x.due(true, "greater", order, 7, 0);
            x.due(false, "greater", order, 0, 7);
            new Run().refused(ARGUMENT, "greater", order, 0, 0);
        }
    }

    private static void greaterAnswersForTheGreatestTerms() {
        Run x = ordinary();
        int low = sixteen(x, 0, 1, 2, 3, 0, 1, 2, 3, 0, 1, CONSTANT);
        int high = sixteen(x, 0, 1, 2, 3, 0, 1, 2, 3, 0, CONSTANT, 1);
        int f = x.wrapped(F, 4, 3);
        for (int order : ORDERS) {
            x.due(false, "greater", order, low, low);
            x.due(false, "greater", order, low, high);
            x.due(true, "greater", order, low, f);
            x.due(false, "greater", order, f, low);
        }
    }

    private static void sameThrowsForNoSuchTerm() {
        Run x = ordinary();
        for (int none : Run.outside(0, 7)) {
            x.refused(ARGUMENT, "same", none, 0);
            x.refused(ARGUMENT, "same", 0, none);
            x.refused(ARGUMENT, "same", none, none);
        }
        x.due(true, "same", 7, 7);
        x.due(true, "same", 0, 0);
        new Run().refused(ARGUMENT, "same", 0, 0);
    }

    private static void sameAsksEachPlaceOfTheGreatestTerms() {
        int[] leaves = {0, 1, 2, 3, 0, 1, 2, 3, 0, 1, 2};
        for (int leaf = 0; leaf <= 10; leaf++) {
            Run x = ordinary();
            int[] others = leaves.clone();
            int first = sixteen(x, leaves);
            x.due(true, "same", first, sixteen(x, others));
            others[leaf] = CONSTANT;
            x.due(false, "same", first, sixteen(x, others));
        }
    }

    // "Promise 10" and "Promise 11"

    private static void admissibleInANewObject() {
        new Run().due(true, "admissible");
        for (int arity = 0; arity <= 3; arity++) {
            Run.withSymbols(arity).due(true, "admissible");
        }
    }

    private static void orientedIs0WithoutRules() {
        for (int order : ORDERS) {
            new Run().due(0, "oriented", order);
            ordinary().due(0, "oriented", order);
        }
    }

    private static void orientedTellsEachRuleByItsBit() {
        for (int one = 0; one < 8; one++) {
            Run x = ordinary();
            for (int r = 0; r < 8; r++) {
                x.rule(F_TERM, r == one ? 0 : F_TERM);
            }
            for (int order : ORDERS) {
                x.due(1 << one, "oriented", order);
            }
        }
        for (int order : ORDERS) {
            full().due(255, "oriented", order);
        }
    }

    private static void orientedThrowsForNoSuchOrder() {
        for (Run x : new Run[] {new Run(), ordinary(), full()}) {
            for (int none : Run.outside(0, 1)) {
                x.refused(ARGUMENT, "oriented", none);
            }
        }
    }

    // "Promise 12"

    private static void searchGivesRanksFrom0ToTheirNumberLess1() {
        for (int order : ORDERS) {
            for (int symbols = 0; symbols <= 5; symbols++) {
                Run x = withConstants(symbols);
                for (int s = 0; s < symbols; s++) {
                    x.order(s, 4, 9 - s);
                }
                x.due(true, "search", order);
                for (int s = 0; s < symbols; s++) {
                    x.due(s, "rank", s);
                    x.due(9 - s, "about", s, 3);
                }
            }
        }
    }

    /** Each of the 120 ways for five symbols, from the first to the last, as the only one. */
    private static void searchFindsTheOnlyWay() {
        for (int way = 0; way < 3125; way++) {
            int[] ranks = {way / 625, way / 125 % 5, way / 25 % 5, way / 5 % 5, way % 5};
            int[] symbols = {-1, -1, -1, -1, -1};
            for (int s = 0; s < 5; s++) {
                symbols[ranks[s]] = s;
            }
            if (Arrays.stream(symbols).min().getAsInt() >= 0) {
                searchFindsRanks(ranks, symbols);
            }
        }
    }

    private static void searchFindsRanks(int[] ranks, int[] symbols) {
        for (int order : ORDERS) {
            Run x = withConstants(5);
            for (int rank = 1; rank <= 4; rank++) {
                x.rule(symbols[rank], symbols[rank - 1]);
            }
            x.due(true, "search", order);
            x.dueRanks(ranks);
            x.due(15, "oriented", order);
        }
    }

    private static void searchTakesTheLeastRanksOfSeveral() {
        int[][] wants = {{0, 4, 1, 2, 3, 4, 0}, {4, 0, 0, 1, 2, 3, 4}, {0, 1, 1, 0, 2, 3, 4},
            {3, 4, 0, 1, 2, 4, 3}, {1, 3, 0, 2, 3, 1, 4}};
        for (int order : ORDERS) {
            for (int[] want : wants) {
                Run x = withConstants(5);
                x.rule(want[0], want[1]);
                x.due(true, "search", order);
                x.dueRanks(Arrays.copyOfRange(want, 2, 7));
            }
        }
    }

    private static void searchIsFalseAndRanksStay() {
        for (int order : ORDERS) {
            Run x = withConstants(5);
            int[] ranks = {4, 4, 0, 2, 1};
            for (int s = 0; s < 5; s++) {
                x.order(s, ranks[s], 1);
                x.rule(s, (s + 1) % 5);
            }
            x.due(false, "search", order);
            x.dueRanks(ranks);
            x.due(0b01010, "oriented", order);
        }
    }

    private static void searchIsFalseForOneRuleOfEight() {
        for (int order : ORDERS) {
            for (int one = 0; one < 8; one++) {
                Run x = ordinary();
                for (int r = 0; r < 8; r++) {
                    x.rule(F_TERM, r == one ? F_TERM : 0);
                }
                x.order(C, 3, 1);
                x.due(false, "search", order);
                x.dueRanks(3, 1, 2, 3, 4);
            }
            full().due(true, "search", order);
        }
    }

    private static void searchByWeightsNeedsConstantsAbove0() {
        Run x = withConstants(5);
        x.order(4, 2, 0);
        x.due(false, "search", WEIGHT);
        x.dueRanks(0, 1, 2, 3, 2);
        x.order(4, 2, 1);
        x.due(true, "search", WEIGHT);
        x.dueRanks(0, 1, 2, 3, 4);
    }

    private static void searchByWeightsPutsArity1OfWeight0Above() {
        for (int s = 0; s <= 4; s++) {
            int[] arities = {2, 2, 2, 2, 2};
            arities[s] = 1;
            Run x = Run.withSymbols(arities);
            x.order(s, 0, 0);
            x.due(true, "search", WEIGHT);
            for (int t = 0; t <= 4; t++) {
                x.due(t < s ? t : t == s ? 4 : t - 1, "rank", t);
            }
        }
        Run alone = Run.withSymbols(1);
        alone.order(0, 4, 0);
        alone.due(true, "search", WEIGHT);
        alone.dueRanks(0);
    }

    private static void searchByWeightsIsFalseForTwoOfArity1AndWeight0() {
        Run x = Run.withSymbols(1, 1);
        x.order(0, 3, 0);
        x.order(1, 3, 0);
        x.due(false, "search", WEIGHT);
        x.dueRanks(3, 3);
    }

    /** The rule needs C above F, which weighs nothing and so must be above C. */
    private static void searchByWeightsIsFalseForRulesAgainstTheWeights() {
        Run x = ordinary();
        x.rule(CONSTANT, x.term(F, CONSTANT));
        x.order(F, 0, 0);
        x.order(C, 1, 1);
        x.due(1, "oriented", WEIGHT);
        x.due(false, "search", WEIGHT);
        x.dueRanks(1, 0, 2, 3, 4);
    }

    private static void searchByPathsAsksNoWeights() {
        Run x = ordinary();
        weights(x, 0, 0, 0, 0, 0);
        x.rule(G_TERM, F_TERM);
        x.due(false, "admissible");
        x.due(true, "search", PATH);
        x.dueRanks(0, 1, 2, 3, 4);
        x.due(false, "search", WEIGHT);
    }

    private static void searchThrowsForNoSuchOrder() {
        Run odd = ordinary();
        odd.order(C, 4, 0);
        for (Run x : new Run[] {new Run(), odd, full()}) {
            for (int none : Run.outside(0, 1)) {
                x.refused(ARGUMENT, "search", none);
            }
        }
        odd.dueRanks(4, 1, 2, 3, 4);
    }

    private static void thePathOrderSentences() {
        String paths = "THE PATH ORDER: ";
        Run.sentence(paths + "s has a part that is t", OrderBoundaryTest::pathPartThatIsTheOther);
        Run.sentence(paths + "s has a part that is greater than t",
                OrderBoundaryTest::pathPartThatIsGreater);
        Run.sentence(paths + "s's symbol is above t's, and s is greater than each part of t",
                OrderBoundaryTest::pathAboveAndGreaterThanEachPart);
        Run.sentence(paths + "the first part of s that is another term is greater",
                OrderBoundaryTest::pathSameSymbolFirstOtherPart);
        Run.sentence(paths + "the same symbol, s is greater than each part of t",
                OrderBoundaryTest::pathSameSymbolGreaterThanEachPart);
        Run.sentence(paths + "ranks that are the same lead to nothing here",
                OrderBoundaryTest::pathSameRanksLeadToNothing);
        Run.sentence(paths + "a variable is greater than nothing",
                OrderBoundaryTest::pathVariableIsGreaterThanNothing);
    }

    private static void theWeightOrderSentences() {
        String weight = "THE WEIGHT ORDER: ";
        Run.sentence(weight + "a term's weight is 1 for a variable",
                OrderBoundaryTest::weightIs1ForAVariable);
        Run.sentence(weight + "no variable is in t more often than in s",
                OrderBoundaryTest::weightOfNoVariableMoreOften);
        Run.sentence(weight + "s has the greater weight", OrderBoundaryTest::weightThatIsGreater);
        Run.sentence(weight + "s has the greater weight, and is a variable",
                OrderBoundaryTest::weightOfAVariableThatIsGreater);
        Run.sentence(weight + "s is it with one symbol of arity 1 around it, or several times",
                OrderBoundaryTest::weightSameAroundAVariable);
        Run.sentence(weight + ".. that same symbol",
                OrderBoundaryTest::weightSameAroundAVariableByOtherSymbols);
        Run.sentence(weight + "the same weight, both are no variables, and s's symbol is above",
                OrderBoundaryTest::weightSameSymbolAbove);
        Run.sentence(weight + "the first part of s that is another term than t's is greater",
                OrderBoundaryTest::weightSameFirstOtherPart);
        Run.sentence(weight + ".. and so on, four parts down",
                OrderBoundaryTest::weightSameFirstOtherPartWithin);
        Run.sentence(weight + ".. is greater than that: no variable more often in it either",
                OrderBoundaryTest::weightSameFirstOtherPartLacksAVariable);
    }

    private static void theWeightsAreAdmissibleSentences() {
        Run.sentence("ADMISSIBLE: each symbol with arity 0 has a weight above 0",
                OrderBoundaryTest::admissibleConstantsWeighMoreThan0);
        Run.sentence("ADMISSIBLE: one with arity 1 and weight 0 is above all others",
                OrderBoundaryTest::admissibleArity1OfWeight0IsAboveAllOthers);
        Run.sentence("ADMISSIBLE: .. that are there",
                OrderBoundaryTest::admissibleAsksOnlySymbolsThatAreThere);
        Run.sentence("ADMISSIBLE: two with arity 1 and weight 0",
                OrderBoundaryTest::admissibleNeverWithTwoOfArity1AndWeight0);
        Run.sentence("ADMISSIBLE: arities 2 and 3 are free",
                OrderBoundaryTest::admissibleArities2And3MayWeigh0);
        Run.sentence("ORIENTED: its left term is greater than its right one",
                OrderBoundaryTest::orientedOnlyIfGreater);
    }

    private static void promise6AndPromise7Sentences() {
        Run.sentence("6: IllegalArgumentException when there is no such symbol",
                OrderBoundaryTest::orderThrowsForNoSuchSymbol);
        Run.sentence("6: IllegalArgumentException when the rank is not as said",
                OrderBoundaryTest::orderThrowsForARankThatIsNone);
        Run.sentence("6: IllegalArgumentException when the weight is not as said",
                OrderBoundaryTest::orderThrowsForAWeightThatIsNone);
        Run.sentence("7: IllegalArgumentException when there is none",
                OrderBoundaryTest::rankThrowsForNoSuchSymbol);
    }

    private static void promise8AndPromise9Sentences() {
        Run.sentence("8: IllegalArgumentException when there is no such order",
                OrderBoundaryTest::greaterThrowsForNoSuchOrder);
        Run.sentence("8: IllegalArgumentException when there is no such term",
                OrderBoundaryTest::greaterThrowsForNoSuchTerm);
        Run.sentence("8: Whether term s is greater than t: the greatest and the highest",
                OrderBoundaryTest::greaterAnswersForTheGreatestTerms);
        Run.sentence("9: Throws likewise", OrderBoundaryTest::sameThrowsForNoSuchTerm);
        Run.sentence("9: Whether two terms are the same: to the last place",
                OrderBoundaryTest::sameAsksEachPlaceOfTheGreatestTerms);
    }

    private static void promise10AndPromise11Sentences() {
        Run.sentence("10: Whether the weights are admissible: of no symbols, or one",
                OrderBoundaryTest::admissibleInANewObject);
        Run.sentence("11: as bits: no rules", OrderBoundaryTest::orientedIs0WithoutRules);
        Run.sentence("11: as bits: each of eight rules",
                OrderBoundaryTest::orientedTellsEachRuleByItsBit);
        Run.sentence("11: Throws likewise", OrderBoundaryTest::orientedThrowsForNoSuchOrder);
    }

    private static void promise12Sentences() {
        String admissible = "12: the weights must be admissible with these ranks: ";
        Run.sentence("12: the ranks 0 .. (their number - 1), each to one",
                OrderBoundaryTest::searchGivesRanksFrom0ToTheirNumberLess1);
        Run.sentence("12: of all ways", OrderBoundaryTest::searchFindsTheOnlyWay);
        Run.sentence("12: of several that in which symbol 0 has the least rank",
                OrderBoundaryTest::searchTakesTheLeastRanksOfSeveral);
        Run.sentence("12: False, and ranks stay as they are, when there is no such way",
                OrderBoundaryTest::searchIsFalseAndRanksStay);
        Run.sentence("12: an order orients all rules",
                OrderBoundaryTest::searchIsFalseForOneRuleOfEight);
        Run.sentence(admissible + "arity 0",
                OrderBoundaryTest::searchByWeightsNeedsConstantsAbove0);
        Run.sentence(admissible + "arity 1",
                OrderBoundaryTest::searchByWeightsPutsArity1OfWeight0Above);
        Run.sentence(admissible + "two of arity 1",
                OrderBoundaryTest::searchByWeightsIsFalseForTwoOfArity1AndWeight0);
        Run.sentence(admissible + "a rule against them",
                OrderBoundaryTest::searchByWeightsIsFalseForRulesAgainstTheWeights);
        Run.sentence(admissible + "for the weight order only",
                OrderBoundaryTest::searchByPathsAsksNoWeights);
        Run.sentence("12: IllegalArgumentException when there is no such order",
                OrderBoundaryTest::searchThrowsForNoSuchOrder);
    }

    public static void main(String[] args) {
        thePathOrderSentences();
        theWeightOrderSentences();
        theWeightsAreAdmissibleSentences();
        promise6AndPromise7Sentences();
        promise8AndPromise9Sentences();
        promise10AndPromise11Sentences();
        promise12Sentences();
        finish();
    }
}
