import java.util.Arrays;

/** The boundaries of rewriting. */
public final class RewritingBoundaryTest extends Boundaries {
    // "REWRITING"

    private static void matchOfAVariableThatComesTwice() {
        Run x = Run.withSymbols(0, 0, 3);
        int v = x.variable(2);
        x.rule(x.term(2, v, v, v), v);
        int c = x.term(0);
        int d = x.term(1);
        int again = x.term(0);
        x.dueWritten("0", x.step(x.term(2, c, again, c)));
        x.due(-1, "step", x.term(2, d, c, c));
        x.due(-1, "step", x.term(2, c, d, c));
        x.due(-1, "step", x.term(2, c, c, d));
        x.due(-1, "step", x.term(2, c, v, c));
        int high = x.term(2, c, d, c);
        int same = x.term(2, again, d, again);
        x.dueWritten("2 0 1 0", x.step(x.term(2, high, same, high)));
        x.due(-1, "step", x.term(2, high, same, x.term(2, c, d, d)));
    }

    private static void matchOfTwoVariablesByTheSameTerm() {
        Run x = ordinary();
        x.rule(G_TERM, 1);
        x.dueWritten("0", x.step(x.term(G, CONSTANT, CONSTANT)));
    }

    private static void matchOfVariablesInTheTerm() {
        Run x = ordinary();
        x.rule(x.term(F, CONSTANT), CONSTANT);
        x.rule(x.wrapped(F, 2, 0), 0);
        x.due(-1, "step", F_TERM);
        for (int v = 0; v <= 3; v++) {
            x.due(-1, "step", v);
            x.dueWritten(String.valueOf(-1 - v), x.step(x.wrapped(F, 2, v)));
        }
    }

    /** A left term of size 16 and height 3 matches itself, and not one that ends before it does. */
    private static void matchOfTheGreatestLeftTerm() {
        Run x = ordinary();
        int[] leaves = {0, 1, 2, 3, 0, 1, 2, 3, 0, 1, 2};
        int great = sixteen(x, leaves);
        x.rule(great, 3);
        x.dueWritten("-4", x.step(great));
        leaves[10] = 3;
        x.due(-1, "step", sixteen(x, leaves));
        x.due(-1, "step", H_TERM);
    }

    private static void placeThatIsALeaf() {
        for (int leaf = 0; leaf <= 10; leaf++) {
            Run x = Run.withSymbols(0, 0, 0, 3);
            int from = x.term(0);
            int to = x.term(1);
            x.rule(from, to);
            int[] leaves = new int[11];
            Arrays.fill(leaves, to);
            leaves[leaf] = from;
            x.dueWritten("3 3 3 1 1 1 3 1 1 1 3 1 1 1 1 1", x.step(sixteen(x, leaves)));
        }
    }

    private static void placeThatIsTheTermItselfOrDeeper() {
        Run x = ordinary();
        x.rule(F_TERM, 0);
        for (int depth = 0; depth <= 3; depth++) {
            int t = x.step(x.wrapped(K, depth, x.term(F, CONSTANT)));
            x.due(true, "same", t, x.wrapped(K, depth, CONSTANT));
        }
    }

    /** The outer place comes first as it is written, and by its rule's number, and yet it waits. */
    private static void stepTakesNoPlaceWithAMatchInItsParts() {
        Run x = ordinary();
        x.rule(F_TERM, CONSTANT);
        x.rule(x.term(K, 0), 0);
        for (int times = 0; times <= 3; times++) {
            int t = x.step(x.wrapped(F, times, x.term(K, 3)));
            x.due(true, "same", t, x.wrapped(F, times, 3));
        }
        int lastPart = x.term(H, 0, 1, x.term(K, 2));
        x.dueWritten("1 3 -1 -2 -3", x.step(x.term(F, lastPart)));
    }

    private static void stepTakesTheFirstPlaceFromTheLeft() {
        Run x = ordinary();
        x.rule(F_TERM, 0);
        int fc = x.term(F, CONSTANT);
        int deep = x.wrapped(K, 2, fc);
        int t = x.step(x.term(H, deep, fc, deep));
        x.dueWritten("3 4 4 0 1 0 4 4 1 0", t);
        t = x.step(t);
        x.dueWritten("3 4 4 0 0 4 4 1 0", t);
        t = x.step(t);
        x.dueWritten("3 4 4 0 0 4 4 0", t);
        x.due(-1, "step", t);
        x.dueWritten("2 0 4 4 1 0", x.step(x.term(G, fc, deep)));
    }

    /** Rules before the least one lead from another symbol; each rule's right term tells it. */
    private static void stepTakesTheLeastRuleThatMatches() {
        for (int least = 0; least < 8; least++) {
            Run x = ordinary();
            for (int r = 0; r < 8; r++) {
                int right = x.wrapped(K, r % 4, r < 4 ? 0 : CONSTANT);
                x.rule(r < least ? G_TERM : F_TERM, right);
            }
            int t = x.step(x.term(F, 3));
            x.due(least % 4 + 1, "about", t, 2);
            x.due(least < 4 ? -4 : C, "place", t, least % 4);
        }
    }

    // "Promise 13"

    private static void stepIsLessThan0WhenNoRuleMatches() {
        Run x = ordinary();
        for (int t = 0; t <= H_TERM; t++) {
            x.due(-1, "step", t);
        }
        x.rule(x.term(K, 0), 0);
        for (int t = 0; t <= H_TERM; t++) {
            x.due(-1, "step", t);
        }
        x.due(9, "count", 1);
    }

    private static void stepMakesOneTermAndNoneOfItsParts() {
        Run x = ordinary();
        x.rule(F_TERM, x.term(H, 0, 0, x.term(G, 0, CONSTANT)));
        int before = x.term(G, x.term(F, 1), 2);
        x.due(before + 1, "step", before);
        x.due(before + 2, "count", 1);
        x.dueWritten("2 3 -2 -2 2 -2 0 -3", before + 1);
        x.due(before + 2, "variable", 0);
    }

    private static void stepMakesATermEvenIfItIsThereAlready() {
        Run x = ordinary();
        x.rule(CONSTANT, CONSTANT);
        x.due(8, "step", CONSTANT);
        x.due(9, "step", 8);
        x.due(true, "same", CONSTANT, 9);
    }

    private static void stepThrowsForNoSuchTerm() {
        Run x = ordinary();
        x.rule(CONSTANT, CONSTANT);
        for (int none : Run.outside(0, 7)) {
            x.refused(ARGUMENT, "step", none);
        }
        x.due(8, "step", CONSTANT);
        new Run().refused(ARGUMENT, "step", 0);
    }

    private static void stepThrowsForATermThatWouldBeTooGreat() {
        Run x = ordinary();
        int c = CONSTANT;
        int three = x.term(G, c, c);
        int four = x.term(H, c, c, c);
        int six = x.term(H, three, c, c);
        int seven = x.term(G, three, three);
        x.rule(x.term(K, 0), x.term(H, 0, 0, c));
        x.rule(F_TERM, x.term(G, 0, 0));
        x.due(16, "about", x.step(x.term(K, seven)), 2);
        x.refused(ARGUMENT, "step", x.term(F, x.term(G, four, three)));
        int doubled = x.term(F, four);
        x.due(16, "about", x.step(x.term(G, doubled, six)), 2);
        x.due(16, "about", x.step(x.term(G, six, doubled)), 2);
        x.refused(ARGUMENT, "step", x.term(G, doubled, seven));
        x.refused(ARGUMENT, "step", x.term(G, seven, doubled));
    }

    /** Eleven times a term of size 15 would make 170 places. */
    private static void stepThrowsForATermThatWouldBeMuchTooGreat() {
        Run x = ordinary();
        x.rule(F_TERM, sixteen(x, 0, 0, 0, 0, 0, 0, 0, 0, 0, 0, 0));
        int three = x.term(G, CONSTANT, CONSTANT);
        int seven = x.term(G, three, three);
        int fifteen = x.term(G, seven, seven);
        x.due(16, "about", x.step(x.term(F, 3)), 2);
        x.refused(ARGUMENT, "step", x.term(F, x.term(K, 3)));
        x.refused(ARGUMENT, "step", x.term(F, fifteen));
    }

    private static void stepThrowsForATermThatWouldBeTooHigh() {
        Run x = ordinary();
        int c = CONSTANT;
        x.rule(F_TERM, x.wrapped(K, 2, 0));
        int highest = x.step(x.term(F, x.wrapped(K, 2, c)));
        x.due(4, "about", highest, 1);
        x.due(4, "about", x.step(x.wrapped(K, 2, x.term(F, c))), 1);
        x.refused(ARGUMENT, "step", x.term(F, x.wrapped(K, 3, c)));
        x.refused(ARGUMENT, "step", x.wrapped(K, 3, x.term(F, c)));
        int third = x.wrapped(K, 3, c);
        x.due(4, "about", x.step(x.term(G, x.term(F, c), third)), 1);
        x.due(4, "about", x.step(x.term(H, third, c, x.term(F, x.term(K, c)))), 1);
        x.refused(ARGUMENT, "step", x.term(H, c, c, x.term(F, x.wrapped(K, 2, c))));
    }

    private static void stepThrowsForATermThatWouldBeMuchTooHigh() {
        Run x = ordinary();
        x.rule(F_TERM, x.wrapped(K, 4, 0));
        x.due(4, "about", x.step(F_TERM), 1);
        x.refused(ARGUMENT, "step", x.term(F, x.wrapped(K, 3, CONSTANT)));
    }

    private static void stepThrowsWhenThereAre160Terms() {
        Run x = filled(5, 159, 8);
        x.due(159, "step", F_TERM);
        x.refused(STATE, "step", F_TERM);
        x.refused(STATE, "step", G_TERM);
        x.refused(STATE, "step", H_TERM);
        x.due(160, "count", 1);
        x.dueWritten("0", 159);
    }

    private static void stepIsLessThan0EvenWhenThereAre160Terms() {
        Run x = full();
        x.due(-1, "step", CONSTANT);
        x.due(-1, "step", 0);
        x.due(-1, "step", 159);
        x.due(160, "count", 1);
    }

    private static void stepThrowsForArgumentsEvenWhenThereAre160Terms() {
        Run x = ordinary();
        x.rule(F_TERM, x.term(K, x.term(G, 0, 0)));
        int high = x.term(F, x.wrapped(K, 3, 0));
        int seven = x.term(G, G_TERM, G_TERM);
        int great = x.term(F, x.term(G, seven, 0));
        x.fillTerms(160);
        for (int none : Run.outside(0, 159)) {
            x.refused(ARGUMENT, "step", none);
        }
        x.refused(ARGUMENT, "step", high);
        x.refused(ARGUMENT, "step", great);
        x.refused(STATE, "step", F_TERM);
    }

    private static void rewritingSentences() {
        Run.sentence("a variable that comes twice, for the same term both times",
                RewritingBoundaryTest::matchOfAVariableThatComesTwice);
        Run.sentence("with terms for its variables: the same for two of them",
                RewritingBoundaryTest::matchOfTwoVariablesByTheSameTerm);
        Run.sentence("with terms for its variables: variables too",
                RewritingBoundaryTest::matchOfVariablesInTheTerm);
        Run.sentence("is that term: the greatest",
                RewritingBoundaryTest::matchOfTheGreatestLeftTerm);
        Run.sentence("A PLACE of a term is a place of a part",
                RewritingBoundaryTest::placeThatIsALeaf);
        Run.sentence("A PLACE of a term is the term itself",
                RewritingBoundaryTest::placeThatIsTheTermItselfOrDeeper);
        Run.sentence("A STEP: while no rule matches a place of its parts",
                RewritingBoundaryTest::stepTakesNoPlaceWithAMatchInItsParts);
        Run.sentence("A STEP: the first one from the left",
                RewritingBoundaryTest::stepTakesTheFirstPlaceFromTheLeft);
        Run.sentence("A STEP: the least rule that matches there",
                RewritingBoundaryTest::stepTakesTheLeastRuleThatMatches);
    }

    private static void promise13Sentences() {
        Run.sentence("13: -1 when no rule matches at any place",
                RewritingBoundaryTest::stepIsLessThan0WhenNoRuleMatches);
        Run.sentence("13: of which no parts count as made",
                RewritingBoundaryTest::stepMakesOneTermAndNoneOfItsParts);
        Run.sentence("13: a new term", RewritingBoundaryTest::stepMakesATermEvenIfItIsThereAlready);
        Run.sentence("13: IllegalArgumentException when there is no such term",
                RewritingBoundaryTest::stepThrowsForNoSuchTerm);
        Run.sentence("13: IllegalArgumentException when it would be too great",
                RewritingBoundaryTest::stepThrowsForATermThatWouldBeTooGreat);
        Run.sentence("13: IllegalArgumentException when it would be much too great",
                RewritingBoundaryTest::stepThrowsForATermThatWouldBeMuchTooGreat);
        Run.sentence("13: IllegalArgumentException when it would be too high",
                RewritingBoundaryTest::stepThrowsForATermThatWouldBeTooHigh);
        Run.sentence("13: IllegalArgumentException when it would be much too high",
                RewritingBoundaryTest::stepThrowsForATermThatWouldBeMuchTooHigh);
        Run.sentence("13: IllegalStateException when there are 160 terms",
                RewritingBoundaryTest::stepThrowsWhenThereAre160Terms);
        Run.sentence("13: -1, with 160 terms: nothing is made, so room is not asked for",
                RewritingBoundaryTest::stepIsLessThan0EvenWhenThereAre160Terms);
        Run.sentence("13: both: the one named first",
                RewritingBoundaryTest::stepThrowsForArgumentsEvenWhenThereAre160Terms);
    }

    public static void main(String[] args) {
        rewritingSentences();
        promise13Sentences();
        finish();
    }
}
