/** The boundaries of an object as a whole: its 512 calls, new, full, and after a refused call. */
public final class ObjectBoundaryTest extends Boundaries {
    // "What it is"

    private static void last(Run x, Object want, String name, int... arguments) {
        while (x.callsLeft() > 1) {
            x.due(true, "search", x.callsLeft() % 2);
        }
        x.due(want, name, arguments);
    }

    private static void call512AnswersQuestions() {
        last(full(), 5, "count", 0);
        last(full(), 4, "rank", 4);
        last(full(), true, "greater", PATH, H_TERM, G_TERM);
        last(full(), true, "greater", WEIGHT, H_TERM, G_TERM);
        last(full(), true, "same", 0, 159);
        last(full(), true, "admissible");
        last(full(), 255, "oriented", PATH);
        last(full(), true, "search", WEIGHT);
        last(full(), -1, "about", 159, 0);
        last(full(), -3, "place", H_TERM, 3);
    }

    private static void call512MakesThings() {
        last(withOneLeft(), 4, "symbol", 3);
        last(withOneLeft(), 159, "variable", 3);
        last(withOneLeft(), 159, "term", H, H_TERM, H_TERM, H_TERM);
        last(withOneLeft(), 7, "rule", H_TERM, H_TERM);
        last(withOneLeft(), 159, "step", F_TERM);
        last(withOneLeft(), "nothing", "order", 3, 4, 9);
    }

    private static void call512Refuses() {
        last(full(), STATE, "symbol", 3);
        last(full(), STATE, "variable", 3);
        last(full(), STATE, "term", C, 0, 0, 0);
        last(full(), STATE, "rule", H_TERM, 0);
        last(full(), STATE, "step", F_TERM);
        last(full(), ARGUMENT, "about", 160, 0);
        last(full(), INDEX, "place", 0, 1);
    }

    private static void allTheSame(Object want, String name, int... arguments) {
        Run x = filled(5, 8, 8);
        while (x.callsLeft() > 0) {
            x.due(want, name, arguments);
        }
    }

    private static void calls512OfOneKind() {
        allTheSame("nothing", "order", 4, 0, 9);
        allTheSame(4, "rank", 4);
        allTheSame(true, "greater", PATH, H_TERM, G_TERM);
        allTheSame(true, "greater", WEIGHT, H_TERM, G_TERM);
        allTheSame(true, "same", H_TERM, H_TERM);
        allTheSame(true, "admissible");
        allTheSame(255, "oriented", WEIGHT);
        allTheSame(true, "search", PATH);
        allTheSame(-1, "step", CONSTANT);
        allTheSame(4, "about", H_TERM, 2);
        allTheSame(H, "place", H_TERM, 0);
        allTheSame(8, "count", 2);
    }

    private static void calls512OfOneKindThatAreRefused() {
        allTheSame(STATE, "symbol", 0);
        allTheSame(ARGUMENT, "variable", 4);
        allTheSame(ARGUMENT, "term", F, 8, 0, 0);
        allTheSame(STATE, "rule", H_TERM, 0);
        allTheSame(ARGUMENT, "order", 5, 0, 0);
        allTheSame(ARGUMENT, "search", 2);
        allTheSame(ARGUMENT, "step", 8);
        allTheSame(INDEX, "place", H_TERM, 4);
    }

    // "What throws changes nothing."

    private static void refuseWrongNumbers(Run x, int symbols, int terms) {
        for (int none : Run.outside(0, terms - 1)) {
            x.refused(ARGUMENT, "rule", none, 0);
            x.refused(ARGUMENT, "greater", PATH, none, 0);
            x.refused(ARGUMENT, "greater", WEIGHT, 0, none);
            x.refused(ARGUMENT, "same", none, none);
            x.refused(ARGUMENT, "step", none);
            x.refused(ARGUMENT, "about", none, 0);
            x.refused(ARGUMENT, "place", none, 0);
        }
        for (int none : Run.outside(0, symbols - 1)) {
            x.refused(ARGUMENT, "term", none, 0, 0, 0);
            x.refused(ARGUMENT, "order", none, 3, 5);
            x.refused(ARGUMENT, "rank", none);
        }
        for (int none : Run.outside(0, 3)) {
            x.refused(ARGUMENT, "symbol", none);
            x.refused(ARGUMENT, "variable", none);
        }
        for (int none : Run.outside(0, 1)) {
            x.refused(ARGUMENT, "greater", none, 0, 0);
            x.refused(ARGUMENT, "oriented", none);
            x.refused(ARGUMENT, "search", none);
        }
    }

    private static void throwsChangeNothingInANewObject() {
        Run x = new Run();
        refuseWrongNumbers(x, 0, 0);
        x.due(0, "symbol", 0);
        x.due(0, "term", 0, 0, 0, 0);
        x.due(0, "rule", 0, 0);
    }

    private static void throwsChangeNothingInAnOrdinaryObject() {
        Run x = withOneLeft();
        x.order(F, 4, 7);
        x.order(H, 2, 0);
        refuseWrongNumbers(x, 4, 159);
        x.dueRanks(0, 4, 2, 2);
        x.due(8, "about", F_TERM, 3);
        x.due(4, "symbol", 0);
        x.due(159, "step", F_TERM);
        x.due(7, "rule", RULES[7][0], RULES[7][1]);
    }

    private static void throwsChangeNothingInAFullObject() {
        Run x = full();
        refuseWrongNumbers(x, 5, 160);
        refuseForWantOfRoom(x);
        refuseWrongNumbers(x, 5, 160);
        x.due(5, "count", 0);
        x.due(160, "count", 1);
        x.due(8, "count", 2);
        x.due(255, "oriented", PATH);
        x.due(true, "search", WEIGHT);
        x.dueRanks(0, 1, 2, 3, 4);
    }

    private static void refuseForWantOfRoom(Run x) {
        x.refused(STATE, "symbol", 0);
        x.refused(STATE, "variable", 0);
        x.refused(STATE, "term", C, 0, 0, 0);
        x.refused(STATE, "rule", CONSTANT, CONSTANT);
        x.refused(STATE, "step", F_TERM);
    }

    // "Promise 1"

    private static void newObjectHasNothing() {
        for (int what = 0; what <= 2; what++) {
            new Run().due(0, "count", what);
        }
        new Run().refused(ARGUMENT, "rank", 0);
        new Run().refused(ARGUMENT, "about", 0, 0);
        new Run().due(0, "oriented", PATH);
        new Run().due(0, "symbol", 3);
        new Run().due(0, "variable", 3);
    }

    /** What one object is told stays with it, even when it is full. */
    private static void newObjectHasNothingBesideAFullOne() {
        Run x = new Run();
        full();
        Run y = new Run();
        for (int what = 0; what <= 2; what++) {
            x.due(0, "count", what);
            y.due(0, "count", what);
        }
    }

    // "Promise 16"

    private static void countTellsSymbolsTermsAndRules() {
        Run x = new Run();
        for (int made = 0; made < 5; made++) {
            x.due(made, "count", 0);
            x.symbol(0);
        }
        for (int made = 0; made < 160; made++) {
            x.due(made, "count", 1);
            x.term(0);
        }
        for (int made = 0; made < 8; made++) {
            x.due(made, "count", 2);
            x.rule(0, 0);
        }
        x.due(5, "count", 0);
        x.due(160, "count", 1);
        x.due(8, "count", 2);
    }

    private static void countIsLessThan0ForAnyOtherNumber() {
        for (Run x : new Run[] {new Run(), ordinary(), full()}) {
            for (int what : Run.outside(0, 2)) {
                x.due(-1, "count", what);
            }
            x.due(-1, "count", 4);
            x.due(-1, "count", -2);
        }
    }

    private static void whatItIsSentences() {
        String calls = "An object is used for at most 512 calls: ";
        Run.sentence(calls + "the 512th is answered", ObjectBoundaryTest::call512AnswersQuestions);
        Run.sentence(calls + "the 512th changes it", ObjectBoundaryTest::call512MakesThings);
        Run.sentence(calls + "the 512th is refused", ObjectBoundaryTest::call512Refuses);
        Run.sentence(calls + "of one kind", ObjectBoundaryTest::calls512OfOneKind);
        Run.sentence(calls + "refused ones", ObjectBoundaryTest::calls512OfOneKindThatAreRefused);
    }

    private static void whatThrowsChangesNothingSentences() {
        String nothing = "What throws changes nothing: ";
        Run.sentence(nothing + "a new object", ObjectBoundaryTest::throwsChangeNothingInANewObject);
        Run.sentence(nothing + "an object with room for one of each",
                ObjectBoundaryTest::throwsChangeNothingInAnOrdinaryObject);
        Run.sentence(nothing + "a full object",
                ObjectBoundaryTest::throwsChangeNothingInAFullObject);
    }

    private static void promise1Sentences() {
        Run.sentence("1: No symbols, terms, rules", ObjectBoundaryTest::newObjectHasNothing);
        Run.sentence("1: No symbols, terms, rules, whatever other objects have",
                ObjectBoundaryTest::newObjectHasNothingBesideAFullOne);
    }

    private static void promise16Sentences() {
        Run.sentence("16: 0 how many symbols, 1 terms, 2 rules there are",
                ObjectBoundaryTest::countTellsSymbolsTermsAndRules);
        Run.sentence("16: -1 for any other number",
                ObjectBoundaryTest::countIsLessThan0ForAnyOtherNumber);
    }

    public static void main(String[] args) {
        whatItIsSentences();
        whatThrowsChangesNothingSentences();
        promise1Sentences();
        promise16Sentences();
        finish();
    }
}
