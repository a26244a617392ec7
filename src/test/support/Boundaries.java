/** What the boundary tests share: the objects that they begin with, and how they end. */
abstract class Boundaries {
    static final String ARGUMENT = Run.ARGUMENT;
    static final String STATE = Run.STATE;
    static final String INDEX = Run.INDEX;
    static final int PATH = 0;
    static final int WEIGHT = 1;
    static final int[] ORDERS = {PATH, WEIGHT};

    /** The symbols of most tests: symbol C has arity 0, F 1, G 2, H 3 and K 1. */
    static final int C = 0;
    static final int F = 1;
    static final int G = 2;
    static final int H = 3;
    static final int K = 4;
    static final int[] ARITIES = {0, 1, 2, 3, 1};

    /** The terms that filled objects begin with, behind the variables 0 .. 3. */
    static final int CONSTANT = 4;
    static final int F_TERM = 5;
    static final int G_TERM = 6;
    static final int H_TERM = 7;
    static final int[][] RULES = {{F_TERM, CONSTANT}, {G_TERM, 0}, {H_TERM, G_TERM},
        {F_TERM, 0}, {G_TERM, 1}, {H_TERM, 0}, {H_TERM, 1}, {H_TERM, 2}};

    static Run withFirstTerms(int symbols) {
        Run x = new Run();
        for (int s = 0; s < symbols; s++) {
            x.symbol(ARITIES[s]);
        }
        for (int v = 0; v < 4; v++) {
            x.variable(v);
        }
        x.term(C);
        x.term(F, 0);
        x.term(G, 0, 1);
        x.term(H, 0, 1, 2);
        return x;
    }

    static Run filled(int symbols, int terms, int rules) {
        Run x = withFirstTerms(symbols);
        x.fillTerms(terms);
        for (int r = 0; r < rules; r++) {
            x.rule(RULES[r][0], RULES[r][1]);
        }
        return x;
    }

    static Run full() {
        return filled(5, 160, 8);
    }

    static Run withOneLeft() {
        return filled(4, 159, 7);
    }

    /** Five symbols, their first terms, no rule. */
    static Run ordinary() {
        return withFirstTerms(5);
    }

    static Run withConstants(int symbols) {
        Run x = new Run();
        for (int s = 0; s < symbols; s++) {
            x.symbol(0);
            x.term(s);
        }
        return x;
    }

    static void sameRanks(Run x) {
        for (int s = 0; s < 5; s++) {
            x.order(s, 0, 1);
        }
    }

    static void weights(Run x, int... weights) {
        for (int s = 0; s < weights.length; s++) {
            x.order(s, s, weights[s]);
        }
    }

    /** A term of symbol s with this part at one place, constants at the others. */
    static int[] termWithPartAt(int s, int place, int part) {
        int[] arguments = {s, CONSTANT, CONSTANT, CONSTANT};
        arguments[1 + place] = part;
        return arguments;
    }

    /** The term of size 16 with these eleven leaves, from the left. */
    static int sixteen(Run x, int... leaves) {
        int first = x.term(H, leaves[0], leaves[1], leaves[2]);
        int second = x.term(H, leaves[3], leaves[4], leaves[5]);
        int third = x.term(H, leaves[6], leaves[7], leaves[8]);
        int thirteen = x.term(H, first, second, third);
        return x.term(H, thirteen, leaves[9], leaves[10]);
    }

    /** Tells how it went; the test ends with exit code 1 if an answer was not as due. */
    static void finish() {
        int wrong = Run.wrongAnswers();
        System.out.println(wrong == 0 ? "all sentences hold" : wrong + " answers are not as due");
        if (wrong != 0) {
            System.exit(1);
        }
    }
}
