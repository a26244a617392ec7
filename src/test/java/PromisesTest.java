/** The promises of the document one by one: ordinary inputs, edges, and wrong inputs. */
public final class PromisesTest {
    private static final String ARGUMENT = "IllegalArgumentException";
    private static final String STATE = "IllegalStateException";
    private static final String INDEX = "IndexOutOfBoundsException";
    private static final int PATH = 0;
    private static final int WEIGHT = 1;
    private static int wrong = 0;

    private interface Call {
        Object answer();
    }

    private static void due(String what, Object got, Object want) {
        if (!want.equals(got)) {
            wrong++;
            System.out.println(what + " answered " + got + ", due is " + want);
        }
    }

    private static void thrown(String what, String want, Call call) {
        String got;
        try {
            got = "answer " + call.answer();
        } catch (RuntimeException e) {
            got = e.getClass().getSimpleName();
        }
        due(what, got, want);
    }

    private static void thrownByOrder(String what, TermOrders x, int s, int rank, int weight) {
        thrown(what, ARGUMENT, () -> {
            x.order(s, rank, weight);
            return "nothing";
        });
    }

    /** A new object with symbols of these arities. */
    private static TermOrders withSymbols(int... arities) {
        TermOrders x = new TermOrders();
        for (int arity : arities) {
            x.symbol(arity);
        }
        return x;
    }

    private static void fill(TermOrders x, int terms) {
        for (int i = x.count(1); i < terms; i++) {
            due("fill", x.variable(0), i);
        }
    }

    /** The places of a term in one text. */
    private static String written(TermOrders x, int t) {
        StringBuilder text = new StringBuilder();
        for (int k = 0; k < x.about(t, 2); k++) {
            text.append(k == 0 ? "" : " ").append(x.place(t, k));
        }
        return text.toString();
    }

    private static String ranks(TermOrders x) {
        StringBuilder text = new StringBuilder();
        for (int s = 0; s < x.count(0); s++) {
            text.append(x.rank(s));
        }
        return text.toString();
    }

    private static void promise1NewObject() {
        TermOrders x = new TermOrders();
        due("1 symbols", x.count(0), 0);
        due("1 terms", x.count(1), 0);
        due("1 rules", x.count(2), 0);
        due("1 admissible", x.admissible(), true);
        due("1 oriented", x.oriented(PATH), 0);
        due("1 search by paths", x.search(PATH), true);
        due("1 search by weights", x.search(WEIGHT), true);
        thrown("1 rank", ARGUMENT, () -> x.rank(0));
        thrown("1 same", ARGUMENT, () -> x.same(0, 0));
        TermOrders y = new TermOrders();
        y.symbol(0);
        y.variable(0);
        due("1 another object's symbols", x.count(0), 0);
        due("1 another object's terms", x.count(1), 0);
    }

    private static void promise2Symbol() {
        TermOrders x = new TermOrders();
        thrown("2 arity -1", ARGUMENT, () -> x.symbol(-1));
        thrown("2 arity 4", ARGUMENT, () -> x.symbol(4));
        due("2 none is there yet", x.count(0), 0);
        for (int s = 0; s < 4; s++) {
            due("2 symbol", x.symbol(s), s);
            due("2 first rank", x.rank(s), s);
        }
        due("2 the fifth", x.symbol(0), 4);
        thrown("2 a sixth", STATE, () -> x.symbol(0));
        thrown("2 a sixth of a wrong arity", ARGUMENT, () -> x.symbol(4));
        thrown("2 a sixth of the least arity", ARGUMENT, () -> x.symbol(Integer.MIN_VALUE));
        due("2 five are there", x.count(0), 5);
        x.variable(0);
        due("2 parts of arity 0", x.about(x.term(0, 0, 0, 0), 2), 1);
        due("2 parts of arity 1", x.about(x.term(1, 0, 0, 0), 2), 2);
        due("2 parts of arity 2", x.about(x.term(2, 0, 0, 0), 2), 3);
        due("2 parts of arity 3", x.about(x.term(3, 0, 0, 0), 2), 4);
        due("2 first weight", x.about(1, 3), 1);
    }

    private static void promise3Variable() {
        TermOrders x = new TermOrders();
        thrown("3 variable -1", ARGUMENT, () -> x.variable(-1));
        thrown("3 variable 4", ARGUMENT, () -> x.variable(4));
        due("3 none is there yet", x.count(1), 0);
        for (int v = 0; v < 4; v++) {
            due("3 variable", x.variable(v), v);
            due("3 what it is", x.about(v, 0), -1 - v);
        }
        due("3 the same again", x.variable(0), 4);
        fill(x, 159);
        due("3 the last", x.variable(3), 159);
        thrown("3 one more", STATE, () -> x.variable(0));
        thrown("3 one more that is none", ARGUMENT, () -> x.variable(4));
        due("3 160 are there", x.count(1), 160);
        due("3 the last is as it was", x.about(159, 0), -4);
    }

    private static void promise4Term() {
        TermOrders x = withSymbols(0, 1, 2, 3);
        due("4 a constant", x.term(0, -7, 99, 99), 0);
        x.variable(0);
        x.variable(1);
        x.variable(2);
        due("4 of three parts", x.term(3, 1, 2, 3), 4);
        due("4 their order", written(x, 4), "3 -1 -2 -3");
        due("4 two parts", written(x, x.term(2, 4, 0, 99)), "2 3 -1 -2 -3 0");
        due("4 one part", written(x, x.term(1, 2, 99, -1)), "1 -2");
        thrown("4 symbol 4", ARGUMENT, () -> x.term(4, 0, 0, 0));
        thrown("4 symbol -1", ARGUMENT, () -> x.term(-1, 0, 0, 0));
        thrown("4 no first part", ARGUMENT, () -> x.term(1, 7, 0, 0));
        thrown("4 no second part", ARGUMENT, () -> x.term(2, 0, -1, 0));
        thrown("4 no third part", ARGUMENT, () -> x.term(3, 0, 0, 7));
        due("4 terms", x.count(1), 7);
    }

    private static void promise4Limits() {
        TermOrders x = withSymbols(0, 1, 2, 3);
        x.term(0, 0, 0, 0);
        for (int h = 1; h <= 4; h++) {
            due("4 height", x.about(x.term(1, h - 1, 0, 0), 1), h);
        }
        thrown("4 height 5", ARGUMENT, () -> x.term(1, 4, 0, 0));
        thrown("4 height 5 by the last part", ARGUMENT, () -> x.term(3, 0, 0, 4));
        int four = x.term(3, 0, 0, 0);
        int three = x.term(2, 0, 0, 0);
        int ten = x.term(3, four, four, 0);
        int eleven = x.term(3, four, three, three);
        due("4 size 16", x.about(x.term(3, ten, four, 0), 2), 16);
        due("4 size 16 by two parts", x.about(x.term(2, eleven, four, 0), 2), 16);
        thrown("4 size 17", ARGUMENT, () -> x.term(3, eleven, four, 0));
        thrown("4 size 34", ARGUMENT, () -> x.term(3, eleven, eleven, eleven));
        due("4 what throws adds none", x.count(1), 11);
        fill(x, 160);
        thrown("4 a 161st", STATE, () -> x.term(0, 0, 0, 0));
        thrown("4 a 161st that is too high", ARGUMENT, () -> x.term(1, 4, 0, 0));
        thrown("4 a 161st that is too great", ARGUMENT, () -> x.term(3, eleven, four, 0));
        thrown("4 a 161st of no symbol", ARGUMENT, () -> x.term(4, 0, 0, 0));
        thrown("4 a 161st of no term", ARGUMENT, () -> x.term(1, 160, 0, 0));
        due("4 160 are there", x.count(1), 160);
    }

    private static void promise5Rule() {
        TermOrders x = withSymbols(0, 2);
        x.variable(0);
        x.variable(1);
        x.term(0, 0, 0, 0);
        int both = x.term(1, 0, 1, 0);
        int twice = x.term(1, 0, 0, 0);
        thrown("5 a variable leads", ARGUMENT, () -> x.rule(0, 0));
        thrown("5 a variable leads to a constant", ARGUMENT, () -> x.rule(0, 2));
        thrown("5 a new variable", ARGUMENT, () -> x.rule(2, 0));
        thrown("5 a new variable inside", ARGUMENT, () -> x.rule(twice, both));
        thrown("5 no left term", ARGUMENT, () -> x.rule(5, 0));
        thrown("5 no right term", ARGUMENT, () -> x.rule(2, -1));
        due("5 none is there yet", x.count(2), 0);
        due("5 fewer variables", x.rule(both, twice), 0);
        due("5 to itself", x.rule(both, both), 1);
        due("5 to a variable", x.rule(twice, 0), 2);
        for (int r = 3; r < 8; r++) {
            due("5 to a constant", x.rule(2, 2), r);
        }
        thrown("5 a ninth", STATE, () -> x.rule(2, 2));
        thrown("5 a ninth that is none", ARGUMENT, () -> x.rule(0, 0));
        thrown("5 a ninth of no term", ARGUMENT, () -> x.rule(5, 2));
        due("5 eight are there", x.count(2), 8);
    }

    private static void promise6And7OrderAndRank() {
        TermOrders x = withSymbols(0, 0);
        x.term(1, 0, 0, 0);
        thrownByOrder("6 symbol 2", x, 2, 0, 0);
        thrownByOrder("6 symbol -1", x, -1, 0, 0);
        thrownByOrder("6 rank 5", x, 1, 5, 3);
        thrownByOrder("6 rank -1", x, 1, -1, 3);
        thrownByOrder("6 weight 10", x, 1, 3, 10);
        thrownByOrder("6 weight -1", x, 1, 3, -1);
        due("6 what throws leaves the rank", x.rank(1), 1);
        due("6 what throws leaves the weight", x.about(0, 3), 1);
        x.order(1, 4, 9);
        due("6 rank", x.rank(1), 4);
        due("6 weight", x.about(0, 3), 9);
        due("6 the other's rank", x.rank(0), 0);
        x.order(1, 0, 0);
        due("6 rank 0, that another has too", x.rank(1), 0);
        due("6 weight 0", x.about(0, 3), 0);
        thrown("7 symbol 2", ARGUMENT, () -> x.rank(2));
        thrown("7 symbol -1", ARGUMENT, () -> x.rank(-1));
    }

    private static void promise8PathOrder() {
        TermOrders x = withSymbols(0, 1, 2, 1, 0);
        int a = x.variable(0);
        int b = x.variable(1);
        int fa = x.term(1, a, 0, 0);
        int ffa = x.term(1, fa, 0, 0);
        int gab = x.term(2, a, b, 0);
        int gba = x.term(2, b, a, 0);
        int gfab = x.term(2, fa, b, 0);
        int fgab = x.term(1, gab, 0, 0);
        int c = x.term(0, 0, 0, 0);
        int hgfab = x.term(3, gfab, 0, 0);
        due("8 a part", x.greater(PATH, fa, a), true);
        due("8 a part's part", x.greater(PATH, ffa, a), true);
        due("8 the same", x.greater(PATH, ffa, ffa), false);
        due("8 a variable", x.greater(PATH, a, c), false);
        due("8 a variable by itself", x.greater(PATH, a, a), false);
        due("8 another variable", x.greater(PATH, fa, b), false);
        due("8 the symbol above", x.greater(PATH, gab, fa), true);
        due("8 the symbol below", x.greater(PATH, fa, gab), false);
        due("8 above, but not each part", x.greater(PATH, x.term(3, a, 0, 0), gab), false);
        due("8 above, and each part", x.greater(PATH, hgfab, fgab), true);
        due("8 the first other part", x.greater(PATH, gfab, gab), true);
        due("8 the first other part is not", x.greater(PATH, gab, gba), false);
        due("8 the first other part is less", x.greater(PATH, gab, gfab), false);
        due("8 part after part", x.greater(PATH, gfab, fgab), true);
        due("8 above a constant", x.greater(PATH, fa, c), true);
        due("8 a constant of itself", x.greater(PATH, c, x.term(0, 0, 0, 0)), false);
        due("8 a constant above", x.greater(PATH, x.term(4, 0, 0, 0), c), true);
        x.order(4, 0, 1);
        due("8 ranks that are the same", x.greater(PATH, x.term(4, 0, 0, 0), c), false);
        x.order(1, 2, 1);
        due("8 the same rank, another symbol", x.greater(PATH, gab, fa), false);
    }

    /** The first other part is greater, but the term is not greater than each part of the other. */
    private static void promise8PathOrderNeedsEachPart() {
        TermOrders x = withSymbols(2, 1);
        int a = x.variable(0);
        int b = x.variable(1);
        int ha = x.term(1, a, 0, 0);
        int hb = x.term(1, b, 0, 0);
        int left = x.term(0, ha, b, 0);
        due("8 each part", x.greater(PATH, left, x.term(0, a, hb, 0)), false);
        due("8 a part that is one of its own", x.greater(PATH, left, x.term(0, a, ha, 0)), true);
        due("8 each part is less", x.greater(PATH, left, x.term(0, a, b, 0)), true);
        due("8 second parts that differ", x.greater(PATH, x.term(0, a, ha, 0), x.term(0, a, a, 0)),
                true);
    }

    private static void promise8WeightOrder() {
        TermOrders x = withSymbols(0, 1, 2, 1, 0);
        int a = x.variable(0);
        int b = x.variable(1);
        int c = x.term(0, 0, 0, 0);
        int fa = x.term(1, a, 0, 0);
        int fb = x.term(1, b, 0, 0);
        int ha = x.term(3, a, 0, 0);
        int gab = x.term(2, a, b, 0);
        int gba = x.term(2, b, a, 0);
        int gaa = x.term(2, a, a, 0);
        int gffab = x.term(2, x.term(1, fa, 0, 0), b, 0);
        int gac = x.term(2, a, c, 0);
        int gca = x.term(2, c, a, 0);
        int gfac = x.term(2, fa, c, 0);
        int gcfa = x.term(2, c, fa, 0);
        due("8w more weight", x.greater(WEIGHT, gab, fa), true);
        due("8w less weight", x.greater(WEIGHT, fa, gab), false);
        due("8w a variable more often", x.greater(WEIGHT, gffab, gaa), false);
        due("8w another variable", x.greater(WEIGHT, gffab, x.variable(2)), false);
        due("8w the symbol above", x.greater(WEIGHT, ha, fa), true);
        due("8w the symbol below", x.greater(WEIGHT, fa, ha), false);
        due("8w above, another variable", x.greater(WEIGHT, ha, fb), false);
        due("8w the same", x.greater(WEIGHT, gab, gab), false);
        due("8w the first other part", x.greater(WEIGHT, gfac, gcfa), true);
        due("8w the first other part is less", x.greater(WEIGHT, gcfa, gfac), false);
        due("8w the first other part is not", x.greater(WEIGHT, gab, gba), false);
        due("8w the first other part weighs more, but has another variable",
                x.greater(WEIGHT, gffab, x.term(2, fb, x.term(3, a, 0, 0), 0)), false);
        due("8w a variable and a constant", x.greater(WEIGHT, gac, gca), false);
        due("8w a constant and a variable", x.greater(WEIGHT, gca, gac), false);
        due("8w a variable by itself", x.greater(WEIGHT, a, a), false);
        x.order(3, 1, 1);
        due("8w the same rank, another symbol", x.greater(WEIGHT, ha, fa), false);
        x.order(0, 0, 0);
        due("8w a variable weighs more than nothing", x.greater(WEIGHT, a, c), true);
        x.order(0, 0, 1);
        due("8w a variable weighs the same", x.greater(WEIGHT, a, c), false);
    }

    private static void promise8WeightOrderAroundVariables() {
        TermOrders x = withSymbols(1, 1, 2, 0);
        int a = x.variable(0);
        int fa = x.term(0, a, 0, 0);
        int fffa = x.term(0, x.term(0, fa, 0, 0), 0, 0);
        int fha = x.term(0, x.term(1, a, 0, 0), 0, 0);
        int gac = x.term(2, a, x.term(3, 0, 0, 0), 0);
        int fb = x.term(0, x.variable(1), 0, 0);
        x.order(0, 4, 0);
        x.order(1, 3, 0);
        x.order(2, 2, 0);
        x.order(3, 1, 0);
        due("8w once around it", x.greater(WEIGHT, fa, a), true);
        due("8w three times around it", x.greater(WEIGHT, fffa, a), true);
        due("8w by the first other part", x.greater(WEIGHT, fffa, fa), true);
        due("8w two symbols around it", x.greater(WEIGHT, fha, a), false);
        due("8w a symbol of arity 2 around it", x.greater(WEIGHT, gac, a), false);
        due("8w around another variable", x.greater(WEIGHT, fb, a), false);
        due("8w a variable is less", x.greater(WEIGHT, a, fa), false);
        due("8w not once around it", x.greater(WEIGHT, a, a), false);
    }

    private static void promise8WrongInputs() {
        TermOrders x = withSymbols(0);
        x.term(0, 0, 0, 0);
        thrown("8 order 2", ARGUMENT, () -> x.greater(2, 0, 0));
        thrown("8 order -1", ARGUMENT, () -> x.greater(-1, 0, 0));
        thrown("8 no first term", ARGUMENT, () -> x.greater(PATH, 1, 0));
        thrown("8 no second term", ARGUMENT, () -> x.greater(WEIGHT, 0, 1));
        thrown("8 term -1", ARGUMENT, () -> x.greater(WEIGHT, -1, 0));
    }

    private static void promise9Same() {
        TermOrders x = withSymbols(0, 0, 2);
        x.variable(0);
        x.variable(0);
        x.variable(1);
        x.term(0, 0, 0, 0);
        x.term(1, 0, 0, 0);
        int first = x.term(2, 0, 3, 0);
        due("9 itself", x.same(0, 0), true);
        due("9 made twice", x.same(0, 1), true);
        due("9 another variable", x.same(0, 2), false);
        due("9 another symbol", x.same(3, 4), false);
        due("9 a variable and a symbol", x.same(3, 0), false);
        due("9 same parts", x.same(first, x.term(2, 1, 3, 0)), true);
        due("9 another last part", x.same(first, x.term(2, 0, 4, 0)), false);
        due("9 other places", x.same(first, x.term(2, 3, 0, 0)), false);
        due("9 greater", x.same(x.term(2, first, 3, 0), first), false);
        thrown("9 no first term", ARGUMENT, () -> x.same(99, 0));
        thrown("9 no second term", ARGUMENT, () -> x.same(0, 99));
        thrown("9 term -1", ARGUMENT, () -> x.same(-1, 0));
    }

    private static void promise10Admissible() {
        TermOrders x = withSymbols(0, 1, 2, 3);
        due("10 at first", x.admissible(), true);
        x.order(0, 4, 0);
        due("10 a constant of weight 0", x.admissible(), false);
        x.order(0, 0, 9);
        x.order(2, 2, 0);
        x.order(3, 3, 0);
        due("10 arity 2 and 3 of weight 0", x.admissible(), true);
        x.order(1, 2, 0);
        due("10 arity 1 of weight 0, not above all", x.admissible(), false);
        x.order(1, 3, 0);
        due("10 arity 1 of weight 0, beside another", x.admissible(), false);
        x.order(1, 4, 0);
        due("10 arity 1 of weight 0, above all", x.admissible(), true);
        x.symbol(1);
        due("10 a new one of the same rank", x.admissible(), false);
        x.order(4, 3, 1);
        due("10 a new one below", x.admissible(), true);
        x.order(4, 3, 0);
        due("10 two of arity 1 and weight 0", x.admissible(), false);
        TermOrders alone = withSymbols(1);
        alone.order(0, 0, 0);
        due("10 alone above all others", alone.admissible(), true);
    }

    private static void promise11Oriented() {
        TermOrders x = withSymbols(0, 1, 2);
        int a = x.variable(0);
        int c = x.term(0, 0, 0, 0);
        int fa = x.term(1, a, 0, 0);
        int gaa = x.term(2, a, a, 0);
        int fc = x.term(1, c, 0, 0);
        due("11 no rules", x.oriented(PATH), 0);
        x.rule(fa, gaa);
        x.rule(fa, a);
        x.rule(c, c);
        x.rule(fc, c);
        x.rule(c, fc);
        x.rule(gaa, fa);
        x.rule(c, c);
        x.rule(fa, c);
        due("11 by paths", x.oriented(PATH), 0b10101010);
        due("11 by weights", x.oriented(WEIGHT), 0b10101010);
        x.order(1, 4, 9);
        due("11 by paths of other ranks", x.oriented(PATH), 0b10001011);
        due("11 by other weights", x.oriented(WEIGHT), 0b10001010);
        thrown("11 order 2", ARGUMENT, () -> x.oriented(2));
        thrown("11 order -1", ARGUMENT, () -> x.oriented(-1));
    }

    private static void promise12SearchByPaths() {
        TermOrders x = withSymbols(0, 0, 0, 0, 0);
        for (int s = 0; s < 5; s++) {
            x.term(s, 0, 0, 0);
            x.order(s, 4 - s, 1);
        }
        due("12 no rules", x.search(PATH), true);
        due("12 the least ranks", ranks(x), "01234");
        x.rule(0, 3);
        due("12 one rule", x.search(PATH), true);
        due("12 symbol 0 is least, then 1", ranks(x), "12304");
        x.rule(1, 4);
        due("12 two rules", x.search(PATH), true);
        due("12 of several ways", ranks(x), "13402");
        x.rule(3, 2);
        x.rule(2, 1);
        due("12 a chain", x.search(PATH), true);
        due("12 the one way: 0 above 3 above 2 above 1 above 4", ranks(x), "41230");
        x.rule(4, 0);
        x.order(0, 2, 1);
        x.order(1, 2, 1);
        String before = ranks(x);
        due("12 a ring", x.search(PATH), false);
        due("12 ranks stay", ranks(x), before);
        thrown("12 order 2", ARGUMENT, () -> x.search(2));
        thrown("12 order -1", ARGUMENT, () -> x.search(-1));
        due("12 ranks stay when it throws", ranks(x), before);
    }

    private static void promise12SearchByWeights() {
        TermOrders x = withSymbols(1, 2, 0);
        int a = x.variable(0);
        int fa = x.term(0, a, 0, 0);
        x.order(0, 2, 0);
        due("12w admissible with these ranks", x.search(WEIGHT), true);
        due("12w the symbol of weight 0 is above", ranks(x), "201");
        due("12w the path order does not ask it", x.search(PATH), true);
        due("12w so it is not above", ranks(x), "012");
        x.rule(fa, a);
        due("12w with a rule", x.search(WEIGHT), true);
        due("12w its ranks", ranks(x), "201");
        x.order(2, 4, 0);
        due("12w never admissible", x.search(WEIGHT), false);
        due("12w ranks stay", ranks(x), "204");
        x.order(2, 4, 1);
        int c = x.term(2, 0, 0, 0);
        x.rule(x.term(1, c, c, 0), x.term(0, x.term(1, c, c, 0), 0, 0));
        due("12w no way for all rules", x.search(WEIGHT), false);
        due("12w ranks stay again", ranks(x), "204");
    }

    private static void promise12SearchAfterNewSymbols() {
        TermOrders x = withSymbols(0, 0);
        x.term(0, 0, 0, 0);
        x.term(1, 0, 0, 0);
        x.rule(0, 1);
        due("12 two symbols", x.search(PATH), true);
        due("12 ranks of two", ranks(x), "10");
        x.symbol(0);
        due("12 a new one has its own number", ranks(x), "102");
        x.order(2, 0, 1);
        due("12 three symbols", x.search(PATH), true);
        due("12 ranks of three", ranks(x), "102");
        due("12 by weights too", x.search(WEIGHT), true);
        due("12 weights stay", x.about(0, 3), 1);
    }

    private static void promise13Step() {
        TermOrders x = withSymbols(0, 1, 2);
        int a = x.variable(0);
        int b = x.variable(1);
        int c = x.term(0, 0, 0, 0);
        int fa = x.term(1, a, 0, 0);
        int ffa = x.term(1, fa, 0, 0);
        int gab = x.term(2, a, b, 0);
        int gba = x.term(2, b, a, 0);
        due("13 no rules", x.step(ffa), -1);
        x.rule(ffa, a);
        int ffb = x.term(1, x.term(1, b, 0, 0), 0, 0);
        int fffb = x.term(1, ffb, 0, 0);
        int inner = x.step(fffb);
        due("13 the number of what it becomes", inner, x.count(1) - 1);
        due("13 the inner place first", written(x, inner), "1 -2");
        due("13 no more", x.step(inner), -1);
        due("13 no rule matches a variable", x.step(a), -1);
        int terms = x.count(1);
        due("13 no rule matches", x.step(c), -1);
        due("13 nothing is made then", x.count(1), terms);
        int twoPlaces = x.term(2, x.term(2, c, ffb, 0), x.term(1, x.term(1, c, 0, 0), 0, 0), 0);
        int first = x.step(twoPlaces);
        due("13 the first from the left", written(x, first), "2 2 0 -2 1 1 0");
        due("13 only it is made", x.count(1), first + 1);
        int second = x.step(first);
        due("13 then the second", written(x, second), "2 2 0 -2 0");
        x.rule(gab, gba);
        due("13 the inner one before the outer", written(x, x.step(twoPlaces)), "2 2 0 -2 1 1 0");
        due("13 both variables change places", written(x, x.step(x.term(2, b, a, 0))), "2 -1 -2");
        x.rule(gab, a);
        due("13 the least rule", written(x, x.step(gab)), "2 -2 -1");
        thrown("13 no such term", ARGUMENT, () -> x.step(x.count(1)));
        thrown("13 term -1", ARGUMENT, () -> x.step(-1));
        due("13 the rewritten stays", written(x, gab), "2 -1 -2");
    }

    private static void promise13StepWithTwoOfOneVariable() {
        TermOrders x = withSymbols(0, 0, 2);
        int a = x.variable(0);
        int c = x.term(0, 0, 0, 0);
        int d = x.term(1, 0, 0, 0);
        x.rule(x.term(2, a, a, 0), a);
        due("13 different terms", x.step(x.term(2, c, d, 0)), -1);
        due("13 a variable and a constant", x.step(x.term(2, a, c, 0)), -1);
        due("13 the same terms", written(x, x.step(x.term(2, c, x.term(0, 0, 0, 0), 0))), "0");
        int cd = x.term(2, c, d, 0);
        int dc = x.term(2, d, c, 0);
        due("13 the same great terms", written(x, x.step(x.term(2, cd, x.term(2, c, d, 0), 0))),
                "2 0 1");
        due("13 other great terms", x.step(x.term(2, cd, dc, 0)), -1);
    }

    private static void promise13Limits() {
        TermOrders x = withSymbols(0, 1, 3, 1);
        int a = x.variable(0);
        int c = x.term(0, 0, 0, 0);
        int fa = x.term(1, a, 0, 0);
        int ffa = x.term(1, fa, 0, 0);
        int triple = x.term(2, a, a, a);
        int hca = x.term(3, a, 0, 0);
        x.rule(fa, triple);
        x.rule(hca, ffa);
        int four = x.term(2, c, c, c);
        int five = x.term(3, four, 0, 0);
        int f4 = x.term(1, four, 0, 0);
        due("13 size 13", x.about(x.step(f4), 2), 13);
        int seven = x.term(2, four, c, c);
        int terms = x.count(1);
        thrown("13 too great", ARGUMENT, () -> x.step(outer(x, 1, seven)));
        due("13 nothing is made but its left side", x.count(1), terms + 1);
        int high = x.term(1, x.term(2, c, c, x.term(2, c, c, x.term(3, c, 0, 0))), 0, 0);
        due("13 height 4", x.about(high, 1), 4);
        thrown("13 too high", ARGUMENT, () -> x.step(high));
        fill(x, 160);
        thrown("13 no room", STATE, () -> x.step(f4));
        thrown("13 too great without room", ARGUMENT, () -> x.step(terms));
        thrown("13 too high without room", ARGUMENT, () -> x.step(high));
        thrown("13 no such term without room", ARGUMENT, () -> x.step(160));
        due("13 nothing to do without room", x.step(four), -1);
        due("13 160 are there", x.count(1), 160);
        due("13 the last is as it was", x.about(159, 0), -1);
        due("13 five is as it was", written(x, five), "3 2 0 0 0");
    }

    private static int outer(TermOrders x, int s, int part) {
        return x.term(s, part, 0, 0);
    }

    private static void promise13RulesOfFullSize() {
        TermOrders x = withSymbols(0, 3);
        int a = x.variable(3);
        int four = x.term(1, a, a, a);
        int sixteen = x.term(1, x.term(1, four, four, a), four, a);
        due("13 a left term of size 16", x.about(sixteen, 2), 16);
        x.rule(sixteen, sixteen);
        due("13 to itself", x.same(x.step(sixteen), sixteen), true);
        int c = x.term(0, 0, 0, 0);
        due("13 a smaller one is not matched", x.step(x.term(1, c, c, c)), -1);
    }

    private static void promise14About() {
        TermOrders x = withSymbols(0, 1, 2);
        x.variable(3);
        x.term(0, 0, 0, 0);
        int f = x.term(1, 1, 0, 0);
        int g = x.term(2, 0, f, 0);
        x.order(0, 0, 2);
        x.order(1, 1, 3);
        x.order(2, 2, 5);
        int[][] want = {{-4, 0, 1, 1}, {0, 0, 1, 2}, {1, 1, 2, 5}, {2, 2, 4, 11}};
        for (int t = 0; t < want.length; t++) {
            for (int what = 0; what < 4; what++) {
                due("14 about " + t + ", " + what, x.about(t, what), want[t][what]);
            }
        }
        x.order(1, 1, 0);
        due("14 the weight follows its symbols", x.about(g, 3), 8);
        thrown("14 no such term", ARGUMENT, () -> x.about(4, 0));
        thrown("14 term -1", ARGUMENT, () -> x.about(-1, 0));
        thrown("14 what 4", ARGUMENT, () -> x.about(0, 4));
        thrown("14 what -1", ARGUMENT, () -> x.about(0, -1));
    }

    private static void promise15Place() {
        TermOrders x = withSymbols(0, 1, 3);
        x.variable(2);
        x.term(0, 0, 0, 0);
        int f = x.term(1, 0, 0, 0);
        int h = x.term(2, f, 1, f);
        int[] want = {2, 1, -3, 0, 1, -3};
        for (int k = 0; k < want.length; k++) {
            due("15 place " + k, x.place(h, k), want[k]);
        }
        due("15 of a variable", x.place(0, 0), -3);
        thrown("15 place 6 of 6", INDEX, () -> x.place(h, 6));
        thrown("15 place 1 of 1", INDEX, () -> x.place(0, 1));
        thrown("15 place -1", INDEX, () -> x.place(h, -1));
        thrown("15 no such term", ARGUMENT, () -> x.place(4, 0));
        thrown("15 term -1", ARGUMENT, () -> x.place(-1, 0));
        thrown("15 no such term, nor place", ARGUMENT, () -> x.place(4, -1));
    }

    private static void promise16Count() {
        TermOrders x = withSymbols(0, 1, 1);
        x.term(0, 0, 0, 0);
        x.variable(0);
        x.rule(0, 0);
        due("16 symbols", x.count(0), 3);
        due("16 terms", x.count(1), 2);
        due("16 rules", x.count(2), 1);
        due("16 of 3", x.count(3), -1);
        due("16 of -1", x.count(-1), -1);
        due("16 of the least", x.count(Integer.MIN_VALUE), -1);
        due("16 of the most", x.count(Integer.MAX_VALUE), -1);
    }

    public static void main(String[] args) {
        promise1NewObject();
        promise2Symbol();
        promise3Variable();
        promise4Term();
        promise4Limits();
        promise5Rule();
        promise6And7OrderAndRank();
        promise8PathOrder();
        promise8PathOrderNeedsEachPart();
        promise8WeightOrder();
        promise8WeightOrderAroundVariables();
        promise8WrongInputs();
        promise9Same();
        promise10Admissible();
        promise11Oriented();
        promise12SearchByPaths();
        promise12SearchByWeights();
        promise12SearchAfterNewSymbols();
        promise13Step();
        promise13StepWithTwoOfOneVariable();
        promise13Limits();
        promise13RulesOfFullSize();
        promise14About();
        promise15Place();
        promise16Count();
        System.out.println(wrong == 0 ? "all answers are as due" : wrong + " answers are not as due");
        if (wrong != 0) {
            System.exit(1);
        }
    }
}
