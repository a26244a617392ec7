/** The boundaries of symbols, terms and rules, and of the calls that make them and tell of them. */
public final class TermBoundaryTest extends Boundaries {
    // "Terms"

    private static void symbolsAre0To4() {
        Run x = new Run();
        for (int s = 0; s <= 4; s++) {
            x.due(s, "symbol", 0);
            x.due(s, "rank", s);
            x.due(s, "about", x.term(s), 0);
        }
    }

    private static void symbolsThatAreNotThere() {
        Run x = new Run();
        for (int s = 0; s <= 5; s++) {
            for (int none : Run.outside(0, s - 1)) {
                x.refused(ARGUMENT, "rank", none);
                x.refused(ARGUMENT, "order", none, 0, 0);
                x.refused(ARGUMENT, "term", none, 0, 0, 0);
            }
            if (s < 5) {
                x.symbol(0);
            }
        }
    }

    private static void aritiesAre0To3() {
        for (int arity = 0; arity <= 3; arity++) {
            Run x = Run.withSymbols(arity);
            x.variable(0);
            x.due(1, "term", 0, 0, 0, 0);
            x.due(arity + 1, "about", 1, 2);
        }
    }

    private static void variablesAre0To3() {
        Run x = new Run();
        for (int v = 0; v <= 3; v++) {
            x.due(v, "variable", v);
            x.due(-1 - v, "about", v, 0);
            x.due(-1 - v, "place", v, 0);
        }
    }

    private static void partsAreAsManyAsTheAritySays() {
        Run x = Run.withSymbols(0, 1, 2, 3);
        x.variable(0);
        x.variable(1);
        x.variable(2);
        x.dueWritten("0", x.term(0));
        x.dueWritten("1 -1", x.term(1, 0));
        x.dueWritten("2 -1 -2", x.term(2, 0, 1));
        x.dueWritten("3 -1 -2 -3", x.term(3, 0, 1, 2));
        x.dueWritten("3 -3 -2 -1", x.term(3, 2, 1, 0));
    }

    private static void heightIs0WithoutParts() {
        Run x = ordinary();
        for (int v = 0; v <= 3; v++) {
            x.due(0, "about", v, 1);
        }
        x.due(0, "about", CONSTANT, 1);
    }

    private static void heightIs1MoreThanTheHighestParts() {
        Run x = ordinary();
        for (int height = 0; height <= 3; height++) {
            int part = x.wrapped(F, height, CONSTANT);
            for (int s : new int[] {F, G, H}) {
                for (int place = 0; place < ARITIES[s]; place++) {
                    int t = (Integer) x.ask("term", termWithPartAt(s, place, part));
                    x.due(height + 1, "about", t, 1);
                }
            }
        }
    }

    private static void heightIsAtMost4() {
        for (int leaf : new int[] {0, 3, CONSTANT}) {
            Run x = ordinary();
            int highest = x.wrapped(F, 4, leaf);
            x.due(4, "about", highest, 1);
            x.refused(ARGUMENT, "term", F, highest, 0, 0);
            x.refused(ARGUMENT, "term", K, highest, 0, 0);
            x.due(4, "about", x.term(H, leaf, x.term(G, leaf, x.wrapped(K, 2, leaf)), leaf), 1);
        }
    }

    private static void sizeIsAtMost16() {
        for (int leaf : new int[] {0, 3, CONSTANT}) {
            Run x = ordinary();
            x.due(1, "about", leaf, 2);
            int two = x.term(F, leaf);
            int four = x.term(H, leaf, leaf, leaf);
            int thirteen = x.term(H, four, four, four);
            x.due(2, "about", two, 2);
            x.due(4, "about", four, 2);
            x.due(13, "about", thirteen, 2);
            x.due(14, "about", x.term(F, thirteen), 2);
            x.due(15, "about", x.term(G, leaf, thirteen), 2);
            x.due(16, "about", x.term(H, thirteen, leaf, leaf), 2);
            x.refused(ARGUMENT, "term", H, thirteen, leaf, two);
        }
    }

    private static void termsHaveNumbersAsMade() {
        Run x = ordinary();
        x.rule(F_TERM, 0);
        x.due(8, "variable", 0);
        x.due(9, "term", C, 0, 0, 0);
        x.due(10, "step", F_TERM);
        x.due(-1, "step", 0);
        x.due(11, "variable", 1);
        x.due(12, "count", 1);
    }

    private static void twoThatAreMadeCanBeTheSame() {
        Run x = ordinary();
        int[][] twins = {{0, x.variable(0)}, {CONSTANT, x.term(C)}, {F_TERM, x.term(F, 0)},
            {H_TERM, x.term(H, 0, 1, 2)}};
        for (int[] twin : twins) {
            x.due(true, "same", twin[0], twin[1]);
            for (int order : ORDERS) {
                x.due(false, "greater", order, twin[0], twin[1]);
                x.due(false, "greater", order, twin[1], twin[0]);
            }
        }
    }

    private static void atMost160Terms() {
        Run byVariables = new Run();
        Run byTerms = Run.withSymbols(0);
        Run bySteps = Run.withSymbols(0);
        bySteps.term(0);
        bySteps.rule(0, 0);
        for (int t = 0; t < 160; t++) {
            byVariables.due(t, "variable", t % 4);
            byTerms.due(t, "term", 0, 0, 0, 0);
            if (t > 0) {
                bySteps.due(t, "step", t - 1);
            }
        }
        byVariables.refused(STATE, "variable", 0);
        byVariables.due(160, "count", 1);
        byTerms.refused(STATE, "term", 0, 0, 0, 0);
        byTerms.due(160, "count", 1);
        bySteps.refused(STATE, "step", 159);
        bySteps.due(160, "count", 1);
    }

    private static void leftIsNoVariable() {
        Run x = ordinary();
        for (int v = 0; v <= 3; v++) {
            for (int right : new int[] {v, CONSTANT, F_TERM}) {
                x.refused(ARGUMENT, "rule", v, right);
            }
        }
        x.due(0, "rule", CONSTANT, CONSTANT);
        x.due(1, "rule", F_TERM, 0);
    }

    /** For each variable: a left term with the three others, then one with all four. */
    private static void leftHasAllVariablesOfRight() {
        for (int v = 0; v <= 3; v++) {
            Run x = ordinary();
            int others = x.term(H, (v + 1) % 4, (v + 2) % 4, (v + 3) % 4);
            int all = x.term(G, others, v);
            int deep = x.term(F, x.term(F, x.term(G, CONSTANT, v)));
            int[] rights = {v, deep, all};
            for (int right : rights) {
                x.refused(ARGUMENT, "rule", others, right);
                x.refused(ARGUMENT, "rule", CONSTANT, right);
                x.rule(all, right);
            }
            x.due(3, "rule", others, others);
            x.due(4, "rule", others, CONSTANT);
            x.due(5, "rule", deep, v);
            x.due(6, "rule", CONSTANT, CONSTANT);
        }
    }

    private static void atMostEightRules() {
        Run x = ordinary();
        for (int r = 0; r < 8; r++) {
            x.due(r, "count", 2);
            x.due(r, "rule", RULES[r][0], RULES[r][1]);
        }
        x.due(8, "count", 2);
    }

    private static void ranksAre0To4() {
        for (int s = 0; s <= 4; s++) {
            Run x = ordinary();
            x.due(s, "rank", s);
            for (int rank = 0; rank <= 4; rank++) {
                x.order(s, rank, 1);
                x.due(rank, "rank", s);
            }
            x.due((s + 1) % 5, "rank", (s + 1) % 5);
        }
    }

    private static void weightsAre0To9() {
        for (int s = 0; s <= 4; s++) {
            Run x = Run.withSymbols(0, 0, 0, 0, 0);
            int t = x.term(s);
            int other = x.term((s + 1) % 5);
            x.due(1, "about", t, 3);
            for (int weight = 0; weight <= 9; weight++) {
                x.order(s, s, weight);
                x.due(weight, "about", t, 3);
            }
            x.due(1, "about", other, 3);
        }
    }

    private static void aboveHasAGreaterRank() {
        Run x = withConstants(2);
        for (int rank = 0; rank <= 4; rank++) {
            for (int other = 0; other <= 4; other++) {
                x.order(0, rank, 1);
                x.order(1, other, 1);
                for (int order : ORDERS) {
                    x.due(rank > other, "greater", order, 0, 1);
                    x.due(other > rank, "greater", order, 1, 0);
                }
            }
        }
    }

    // "Promise 2"

    private static void symbolThrowsForAnArityThatIsNone() {
        for (int symbols = 0; symbols <= 4; symbols++) {
            Run x = withConstants(symbols);
            for (int arity : Run.outside(0, 3)) {
                x.refused(ARGUMENT, "symbol", arity);
            }
            x.due(symbols, "symbol", 3);
        }
    }

    private static void symbolThrowsWhenThereAreFive() {
        Run x = withConstants(4);
        x.due(4, "symbol", 1);
        x.order(4, 2, 7);
        for (int arity = 0; arity <= 3; arity++) {
            x.refused(STATE, "symbol", arity);
        }
        x.due(5, "count", 0);
        x.due(2, "rank", 4);
        x.due(8, "about", x.term(4, 0), 3);
    }

    private static void symbolThrowsForAnArityEvenWhenThereAreFive() {
        Run x = withConstants(5);
        for (int arity : Run.outside(0, 3)) {
            x.refused(ARGUMENT, "symbol", arity);
        }
    }

    // "Promise 3"

    private static void variableThrowsForOneThatIsNone() {
        for (int terms : new int[] {0, 1, 159}) {
            Run x = new Run();
            x.fillTerms(terms);
            for (int v : Run.outside(0, 3)) {
                x.refused(ARGUMENT, "variable", v);
            }
            x.due(terms, "variable", 3);
        }
    }

    private static void variableThrowsWhenThereAre160Terms() {
        Run x = new Run();
        x.fillTerms(159);
        x.due(159, "variable", 2);
        for (int v = 0; v <= 3; v++) {
            x.refused(STATE, "variable", v);
        }
        x.due(-3, "about", 159, 0);
    }

    private static void variableThrowsForOneThatIsNoneEvenWhenThereAre160() {
        Run x = full();
        for (int v : Run.outside(0, 3)) {
            x.refused(ARGUMENT, "variable", v);
        }
    }

    // "Promise 4"

    private static void termThrowsForNoSuchSymbol() {
        for (int symbols = 0; symbols <= 5; symbols++) {
            Run x = withConstants(symbols);
            x.variable(0);
            for (int s : Run.outside(0, symbols - 1)) {
                x.refused(ARGUMENT, "term", s, 0, 0, 0);
            }
        }
    }

    private static int[] termWithNoTermAt(int s, int place, int none) {
        int[] arguments = {s, 0, 0, 0};
        arguments[1 + place] = none;
        return arguments;
    }

    /** Only a part that the arity asks for must be there. */
    private static void termThrowsForNoSuchTerm() {
        for (int s = 0; s <= 3; s++) {
            for (int place = 0; place <= 2; place++) {
                Run x = ordinary();
                for (int none : Run.outside(0, 7)) {
                    int[] arguments = termWithNoTermAt(s, place, none);
                    if (place < ARITIES[s]) {
                        x.refused(ARGUMENT, "term", arguments);
                    } else {
                        x.due(ARITIES[s] + 1, "about", (Integer) x.ask("term", arguments), 2);
                    }
                }
                int taken = (Integer) x.ask("term", termWithNoTermAt(s, place, 7));
                x.due(s, "about", taken, 0);
            }
        }
    }

    private static void termThrowsForNoSuchTermInANewObject() {
        Run x = Run.withSymbols(0, 1);
        x.refused(ARGUMENT, "term", 1, 0, 0, 0);
        x.due(0, "term", 0, 0, 0, 0);
        x.refused(ARGUMENT, "term", 1, 1, 0, 0);
        x.due(1, "term", 1, 0, 0, 0);
    }

    private static void termThrowsWhenItWouldBeTooHigh() {
        Run x = ordinary();
        int ofConstant = x.wrapped(F, 4, CONSTANT);
        int ofVariable = x.wrapped(F, 4, 3);
        for (int s : new int[] {F, G, H}) {
            for (int place = 0; place < ARITIES[s]; place++) {
                x.refused(ARGUMENT, "term", termWithPartAt(s, place, ofConstant));
                x.refused(ARGUMENT, "term", termWithPartAt(s, place, ofVariable));
            }
        }
        x.refused(ARGUMENT, "term", H, ofConstant, ofVariable, ofConstant);
    }

    private static void termThrowsWhenItWouldBeTooGreat() {
        Run x = ordinary();
        int c = CONSTANT;
        int two = x.term(F, c);
        int three = x.term(G, c, c);
        int four = x.term(H, c, c, c);
        int thirteen = x.term(H, four, four, four);
        int seven = x.term(G, three, three);
        int fifteen = x.term(G, seven, seven);
        int sixteen = x.term(H, four, four, x.term(H, c, four, c));
        x.due(16, "about", x.term(F, fifteen), 2);
        x.refused(ARGUMENT, "term", F, sixteen, 0, 0);
        x.due(16, "about", x.term(G, thirteen, two), 2);
        x.refused(ARGUMENT, "term", G, thirteen, three, 0);
        x.due(16, "about", x.term(G, two, thirteen), 2);
        x.refused(ARGUMENT, "term", G, three, thirteen, 0);
        x.due(16, "about", x.term(H, c, thirteen, c), 2);
        x.refused(ARGUMENT, "term", H, c, thirteen, two);
        x.due(16, "about", x.term(H, c, c, thirteen), 2);
        x.refused(ARGUMENT, "term", H, two, c, thirteen);
        x.refused(ARGUMENT, "term", G, sixteen, sixteen, 0);
        x.refused(ARGUMENT, "term", H, sixteen, sixteen, sixteen);
    }

    private static void termThrowsWhenThereAre160() {
        Run x = withFirstTerms(5);
        x.fillTerms(159);
        x.due(159, "term", H, 158, CONSTANT, F_TERM);
        for (int s = 0; s <= 4; s++) {
            x.refused(STATE, "term", s, 0, 0, 0);
        }
        x.dueWritten("3 -1 0 1 -1", 159);
    }

    private static void termThrowsForArgumentsEvenWhenThereAre160() {
        Run x = ordinary();
        int high = x.wrapped(F, 4, CONSTANT);
        int seven = x.term(H, CONSTANT, CONSTANT, x.term(H, 0, 1, 2));
        int eleven = x.term(G, seven, x.term(G, 0, 1));
        x.fillTerms(160);
        x.refused(ARGUMENT, "term", 5, 0, 0, 0);
        x.refused(ARGUMENT, "term", F, 160, 0, 0);
        x.refused(ARGUMENT, "term", F, high, 0, 0);
        x.refused(ARGUMENT, "term", G, eleven, seven, 0);
    }

    // "Promise 5"

    private static void ruleThrowsForNoSuchTerm() {
        Run x = ordinary();
        for (int none : Run.outside(0, 7)) {
            x.refused(ARGUMENT, "rule", none, CONSTANT);
            x.refused(ARGUMENT, "rule", CONSTANT, none);
            x.refused(ARGUMENT, "rule", none, none);
        }
        x.due(0, "rule", 7, 7);
        new Run().refused(ARGUMENT, "rule", 0, 0);
    }

    private static void ruleThrowsWhenTheyAreNotAsSaid() {
        Run x = ordinary();
        x.refused(ARGUMENT, "rule", 0, 0);
        x.refused(ARGUMENT, "rule", 0, CONSTANT);
        x.refused(ARGUMENT, "rule", F_TERM, 1);
        x.refused(ARGUMENT, "rule", F_TERM, G_TERM);
        x.due(0, "rule", G_TERM, F_TERM);
    }

    private static void ruleThrowsWhenThereAreEight() {
        Run x = filled(5, 8, 7);
        x.due(7, "rule", H_TERM, 2);
        for (int[] rule : RULES) {
            x.refused(STATE, "rule", rule[0], rule[1]);
        }
        x.due(8, "count", 2);
        x.due(255, "oriented", PATH);
    }

    private static void ruleThrowsForArgumentsEvenWhenThereAreEight() {
        Run x = filled(5, 8, 8);
        x.refused(ARGUMENT, "rule", 8, 0);
        x.refused(ARGUMENT, "rule", H_TERM, -1);
        x.refused(ARGUMENT, "rule", 0, 0);
        x.refused(ARGUMENT, "rule", F_TERM, 1);
    }

    // "Promise 14"

    private static void aboutTellsEachSymbolAndVariable() {
        Run x = withConstants(5);
        for (int s = 0; s <= 4; s++) {
            x.due(s, "about", s, 0);
        }
        for (int v = 0; v <= 3; v++) {
            x.due(-1 - v, "about", x.variable(v), 0);
        }
    }

    private static void aboutTellsTheLeastAndTheGreatest() {
        Run x = ordinary();
        int c = CONSTANT;
        int great = sixteen(x, c, c, c, c, c, c, c, c, c, c, c);
        int high = x.wrapped(F, 4, 0);
        weights(x, 9, 9, 9, 9, 9);
        x.due(3, "about", great, 1);
        x.due(16, "about", great, 2);
        x.due(144, "about", great, 3);
        x.due(4, "about", high, 1);
        x.due(5, "about", high, 2);
        x.due(37, "about", high, 3);
        weights(x, 0, 0, 0, 0, 0);
        x.due(0, "about", great, 3);
        x.due(1, "about", high, 3);
        x.due(0, "about", c, 1);
        x.due(1, "about", c, 2);
        x.due(0, "about", c, 3);
    }

    private static void aboutThrowsForNoSuchTerm() {
        Run x = ordinary();
        for (int what = 0; what <= 3; what++) {
            for (int none : Run.outside(0, 7)) {
                x.refused(ARGUMENT, "about", none, what);
            }
            new Run().refused(ARGUMENT, "about", 0, what);
        }
        x.due(H, "about", 7, 0);
        full().due(-1, "about", 159, 0);
        full().refused(ARGUMENT, "about", 160, 0);
    }

    private static void aboutThrowsForWhatIsNoneOfThese() {
        Run x = ordinary();
        for (int what : Run.outside(0, 3)) {
            x.refused(ARGUMENT, "about", 7, what);
            x.refused(ARGUMENT, "about", 8, what);
        }
    }

    // "Promise 15"

    private static void placeTellsEachPlace() {
        Run x = ordinary();
        int great = sixteen(x, 0, 1, 2, 3, CONSTANT, 0, 1, 2, 3, CONSTANT, 1);
        int[] want = {3, 3, 3, -1, -2, -3, 3, -4, 0, -1, 3, -2, -3, -4, 0, -2};
        for (int k = 0; k <= 15; k++) {
            x.due(want[k], "place", great, k);
        }
        x.due(-4, "place", 3, 0);
    }

    private static void placeThrowsForNoSuchTerm() {
        Run x = ordinary();
        for (int none : Run.outside(0, 7)) {
            x.refused(ARGUMENT, "place", none, 0);
            x.refused(ARGUMENT, "place", none, -1);
            x.refused(ARGUMENT, "place", none, Integer.MAX_VALUE);
        }
        x.due(H, "place", 7, 0);
        new Run().refused(ARGUMENT, "place", 0, 0);
    }

    private static void placeThrowsForNoSuchPlace() {
        Run x = ordinary();
        int great = sixteen(x, 0, 1, 2, 3, 0, 1, 2, 3, 0, 1, 2);
        int[][] sizes = {{0, 1}, {CONSTANT, 1}, {F_TERM, 2}, {G_TERM, 3}, {H_TERM, 4}, {great, 16}};
        for (int[] size : sizes) {
            for (int none : Run.outside(0, size[1] - 1)) {
                x.refused(INDEX, "place", size[0], none);
            }
        }
    }

    private static void termsSentences() {
        Run.sentence("SYMBOLS are 0 .. 4", TermBoundaryTest::symbolsAre0To4);
        Run.sentence("or not there", TermBoundaryTest::symbolsThatAreNotThere);
        Run.sentence("each with an ARITY 0 .. 3", TermBoundaryTest::aritiesAre0To3);
        Run.sentence("VARIABLES are 0 .. 3", TermBoundaryTest::variablesAre0To3);
        Run.sentence("as many terms, its PARTS, as its arity says",
                TermBoundaryTest::partsAreAsManyAsTheAritySays);
        Run.sentence("Its HEIGHT is 0 for a variable or without parts",
                TermBoundaryTest::heightIs0WithoutParts);
        Run.sentence("else 1 more than its highest part's",
                TermBoundaryTest::heightIs1MoreThanTheHighestParts);
        Run.sentence("its HEIGHT at most 4", TermBoundaryTest::heightIsAtMost4);
        Run.sentence("its SIZE 1 and the sizes of its parts, at most 16",
                TermBoundaryTest::sizeIsAtMost16);
        Run.sentence("Terms have numbers 0, 1, .. in the order in which they are made",
                TermBoundaryTest::termsHaveNumbersAsMade);
        Run.sentence("two that are made can be the same term",
                TermBoundaryTest::twoThatAreMadeCanBeTheSame);
        Run.sentence("at most 160", TermBoundaryTest::atMost160Terms);
        Run.sentence("the left one is no variable", TermBoundaryTest::leftIsNoVariable);
        Run.sentence("and has all variables of the right one",
                TermBoundaryTest::leftHasAllVariablesOfRight);
        Run.sentence("There are at most eight, with numbers 0, 1, ..",
                TermBoundaryTest::atMostEightRules);
        Run.sentence("a RANK 0 .. 4 (its own number at first)", TermBoundaryTest::ranksAre0To4);
        Run.sentence("a WEIGHT 0 .. 9 (1 at first)", TermBoundaryTest::weightsAre0To9);
        Run.sentence("One ABOVE another has a greater rank",
                TermBoundaryTest::aboveHasAGreaterRank);
    }

    private static void promise2Sentences() {
        Run.sentence("2: IllegalArgumentException when arity is not 0 .. 3",
                TermBoundaryTest::symbolThrowsForAnArityThatIsNone);
        Run.sentence("2: IllegalStateException when there are five",
                TermBoundaryTest::symbolThrowsWhenThereAreFive);
        Run.sentence("2: both: the one named first",
                TermBoundaryTest::symbolThrowsForAnArityEvenWhenThereAreFive);
    }

    private static void promise3Sentences() {
        Run.sentence("3: IllegalArgumentException when there is no such variable",
                TermBoundaryTest::variableThrowsForOneThatIsNone);
        Run.sentence("3: IllegalStateException when there are 160 terms",
                TermBoundaryTest::variableThrowsWhenThereAre160Terms);
        Run.sentence("3: both: the one named first",
                TermBoundaryTest::variableThrowsForOneThatIsNoneEvenWhenThereAre160);
    }

    private static void promise4Sentences() {
        Run.sentence("4: IllegalArgumentException when there is no such symbol",
                TermBoundaryTest::termThrowsForNoSuchSymbol);
        Run.sentence("4: IllegalArgumentException when there is no such term",
                TermBoundaryTest::termThrowsForNoSuchTerm);
        Run.sentence("4: IllegalArgumentException when there is no term at all",
                TermBoundaryTest::termThrowsForNoSuchTermInANewObject);
        Run.sentence("4: IllegalArgumentException when it would be too high",
                TermBoundaryTest::termThrowsWhenItWouldBeTooHigh);
        Run.sentence("4: IllegalArgumentException when it would be too great",
                TermBoundaryTest::termThrowsWhenItWouldBeTooGreat);
        Run.sentence("4: IllegalStateException when there are 160",
                TermBoundaryTest::termThrowsWhenThereAre160);
        Run.sentence("4: both: the one named first",
                TermBoundaryTest::termThrowsForArgumentsEvenWhenThereAre160);
    }

    private static void promise5Sentences() {
        Run.sentence("5: IllegalArgumentException when there is no such term",
                TermBoundaryTest::ruleThrowsForNoSuchTerm);
        Run.sentence("5: IllegalArgumentException when they are not as said",
                TermBoundaryTest::ruleThrowsWhenTheyAreNotAsSaid);
        Run.sentence("5: IllegalStateException when there are eight",
                TermBoundaryTest::ruleThrowsWhenThereAreEight);
        Run.sentence("5: both: the one named first",
                TermBoundaryTest::ruleThrowsForArgumentsEvenWhenThereAreEight);
    }

    private static void promise14Sentences() {
        Run.sentence("14: 0 its symbol, or -1 - v for variable v",
                TermBoundaryTest::aboutTellsEachSymbolAndVariable);
        Run.sentence("14: 1 its height; 2 its size; 3 its weight",
                TermBoundaryTest::aboutTellsTheLeastAndTheGreatest);
        Run.sentence("14: IllegalArgumentException when there is no such term",
                TermBoundaryTest::aboutThrowsForNoSuchTerm);
        Run.sentence("14: IllegalArgumentException when what is none of these",
                TermBoundaryTest::aboutThrowsForWhatIsNoneOfThese);
    }

    private static void promise15Sentences() {
        Run.sentence("15: Place k of a term", TermBoundaryTest::placeTellsEachPlace);
        Run.sentence("15: IllegalArgumentException when there is no such term",
                TermBoundaryTest::placeThrowsForNoSuchTerm);
        Run.sentence("15: IndexOutOfBoundsException when there is no such place",
                TermBoundaryTest::placeThrowsForNoSuchPlace);
    }

    public static void main(String[] args) {
        termsSentences();
        promise2Sentences();
        promise3Sentences();
        promise4Sentences();
        promise5Sentences();
        promise14Sentences();
        promise15Sentences();
        finish();
    }
}
