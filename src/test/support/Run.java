import java.util.ArrayList;
import java.util.List;

/**
 * A run of calls on a new object, each compared with the answer that is due. An answer is a number,
 * true or false, "nothing", or "throws." with the exception's name. Calls are kept as data, so that
 * a run can be made again: a refused call is checked by a twin on which it was never tried.
 */
final class Run {
    static final String ARGUMENT = "throws.IllegalArgumentException";
    static final String STATE = "throws.IllegalStateException";
    static final String INDEX = "throws.IndexOutOfBoundsException";
    static final int MOST_CALLS = 512;
    static final int MOST_TERMS = 160;

    private static int wrong = 0;
    private static String sentence = "";

    private final TermOrders object = new TermOrders();
    private final List<Call> accepted = new ArrayList<>();
    /** How many symbols, terms and rules are there, told by the answers: count is a call too. */
    private final int[] made = new int[3];
    private int calls = 0;

    private record Call(String name, int... arguments) {
        Object on(TermOrders x) {
            try {
                return answer(x, arguments);
            } catch (RuntimeException e) {
                return "throws." + e.getClass().getSimpleName();
            }
        }

        private Object answer(TermOrders x, int[] a) {
            switch (name) {
                case "symbol":
                    return x.symbol(a[0]);
                case "variable":
                    return x.variable(a[0]);
                case "term":
                    return x.term(a[0], a[1], a[2], a[3]);
                case "rule":
                    return x.rule(a[0], a[1]);
                case "order":
                    x.order(a[0], a[1], a[2]);
                    return "nothing";
                case "rank":
                    return x.rank(a[0]);
                case "greater":
                    return x.greater(a[0], a[1], a[2]);
                case "same":
                    return x.same(a[0], a[1]);
                case "admissible":
                    return x.admissible();
                case "oriented":
                    return x.oriented(a[0]);
                case "search":
                    return x.search(a[0]);
                case "step":
                    return x.step(a[0]);
                case "about":
                    return x.about(a[0], a[1]);
                case "place":
                    return x.place(a[0], a[1]);
                case "count":
                    return x.count(a[0]);
                default:
                    throw new IllegalCallerException(name);
            }
        }

        String text() {
            StringBuilder text = new StringBuilder(name).append('(');
            for (int i = 0; i < arguments.length; i++) {
                text.append(i == 0 ? "" : ", ").append(arguments[i]);
            }
            return text.append(')').toString();
        }
    }

    /** What is told from here on belongs to this sentence of the document. */
    static void sentence(String text, Runnable test) {
        sentence = text;
        int before = wrong;
        try {
            test.run();
        } catch (RuntimeException e) {
            tell("the test itself broke: " + e);
        }
        if (wrong != before) {
            System.out.println("  so this does not hold: " + text);
        }
    }

    static int wrongAnswers() {
        return wrong;
    }

    private static void tell(String what) {
        wrong++;
        System.out.println("[" + sentence + "] " + what);
    }

    /** Numbers on either side of a range, next to it and as far away as can be. */
    static int[] outside(int least, int most) {
        return new int[] {least - 1, most + 1, Integer.MIN_VALUE, Integer.MAX_VALUE};
    }

    /** A run that begins with symbols of these arities. */
    static Run withSymbols(int... arities) {
        Run x = new Run();
        for (int arity : arities) {
            x.symbol(arity);
        }
        return x;
    }

    Object ask(String name, int... arguments) {
        Call call = new Call(name, arguments);
        calls++;
        if (calls > MOST_CALLS) {
            tell(call.text() + " is one call too many: what it answers is free");
        }
        Object answer = call.on(object);
        if (!answer.toString().startsWith("throws.")) {
            accepted.add(call);
            countMade(name, answer);
        }
        return answer;
    }

    private void countMade(String name, Object answer) {
        if (name.equals("symbol")) {
            made[0]++;
        } else if (name.equals("variable") || name.equals("term")
                || name.equals("step") && !answer.equals(-1)) {
            made[1]++;
        } else if (name.equals("rule")) {
            made[2]++;
        }
    }

    void due(Object want, String name, int... arguments) {
        Object got = ask(name, arguments);
        if (!want.equals(got)) {
            tell("after " + (calls - 1) + " calls " + new Call(name, arguments).text()
                    + " answered " + got + ", due is " + want);
        }
    }

    /** The call throws this, and the object answers after it as one on which it was not tried. */
    void refused(String exception, String name, int... arguments) {
        due(exception, name, arguments);
        Call call = new Call(name, arguments);
        List<Object> without = answersAfter(null);
        List<Object> with = answersAfter(call);
        if (!with.equals(without)) {
            tell(call.text() + " is refused, but changes what later calls answer");
        }
    }

    int callsLeft() {
        return MOST_CALLS - calls;
    }

    int symbol(int arity) {
        return make("symbol", 0, arity);
    }

    int variable(int v) {
        return make("variable", 1, v);
    }

    /** Arguments that the arity does not ask for are numbers that no term has. */
    int term(int s, int... parts) {
        int x = parts.length > 0 ? parts[0] : Integer.MIN_VALUE;
        int y = parts.length > 1 ? parts[1] : Integer.MAX_VALUE;
        int z = parts.length > 2 ? parts[2] : -1;
        return make("term", 1, s, x, y, z);
    }

    int rule(int left, int right) {
        return make("rule", 2, left, right);
    }

    int step(int t) {
        return make("step", 1, t);
    }

    void order(int s, int rank, int weight) {
        due("nothing", "order", s, rank, weight);
    }

    /** One thing more of the kind that count(what) counts; it must get the next number. */
    private int make(String name, int what, int... arguments) {
        int next = made[what];
        due(next, name, arguments);
        return next;
    }

    /** This term with a symbol of arity 1 around it, so many times. */
    int wrapped(int s, int times, int t) {
        int wrapped = t;
        for (int i = 0; i < times; i++) {
            wrapped = term(s, wrapped);
        }
        return wrapped;
    }

    void fillTerms(int terms) {
        for (int t = made[1]; t < terms; t++) {
            variable(0);
        }
    }

    /** The places of a term, read by place until there is none. */
    String written(int t) {
        StringBuilder text = new StringBuilder();
        int size = (Integer) ask("about", t, 2);
        for (int k = 0; k < size; k++) {
            text.append(k == 0 ? "" : " ").append(ask("place", t, k));
        }
        return text.toString();
    }

    void dueWritten(String want, int t) {
        String got = written(t);
        if (!want.equals(got)) {
            tell("term " + t + " is written " + got + ", due is " + want);
        }
    }

    void dueRanks(int... ranks) {
        for (int s = 0; s < ranks.length; s++) {
            due(ranks[s], "rank", s);
        }
    }

    /** What the object answers to all questions, with or without this call after the others. */
    private List<Object> answersAfter(Call last) {
        List<Object> answers = new ArrayList<>();
        int room = MOST_CALLS - accepted.size() - 2;
        if (room < MOST_TERMS) {
            throw new IllegalCallerException("this run is too long to be made again and asked");
        }
        List<Call> questions = questions();
        for (int from = 0; from < questions.size(); from += room) {
            int end = Math.min(from + room, questions.size());
            askAll(again(last), questions.subList(from, end), answers);
        }
        List<Call> changes = changes();
        askAll(again(last), changes.subList(0, Math.min(room, changes.size())), answers);
        return answers;
    }

    private static void askAll(TermOrders x, List<Call> questions, List<Object> answers) {
        for (Call question : questions) {
            answers.add(question.on(x));
        }
    }

    private TermOrders again(Call last) {
        TermOrders x = new TermOrders();
        for (Call call : accepted) {
            call.on(x);
        }
        if (last != null) {
            last.on(x);
        }
        return x;
    }

    private List<Call> questions() {
        List<Call> questions = new ArrayList<>();
        add(questions, "admissible");
        for (int i = 0; i < 3; i++) {
            add(questions, "count", i);
            add(questions, "oriented", i);
        }
        for (int s = 0; s <= 5; s++) {
            add(questions, "rank", s);
        }
        int terms = made[1];
        TermOrders twin = again(null);
        for (int t = 0; t <= terms; t++) {
            for (int what = 0; what < 4; what++) {
                add(questions, "about", t, what);
            }
            int size = t < terms ? twin.about(t, 2) : 0;
            for (int k = 0; k <= size; k++) {
                add(questions, "place", t, k);
            }
            add(questions, "greater", 0, t, terms - 1 - t);
            add(questions, "greater", 1, t, terms - 1 - t);
            add(questions, "same", t, terms - 1 - t);
        }
        return questions;
    }

    /** Calls that change the object, and what is seen of that. */
    private List<Call> changes() {
        List<Call> changes = new ArrayList<>();
        int terms = made[1];
        for (int t = 0; t < Math.min(terms, 20); t++) {
            add(changes, "step", t);
            add(changes, "step", terms - 1 - t);
        }
        for (int i = 0; i < 2; i++) {
            add(changes, "search", i);
            for (int s = 0; s < 5; s++) {
                add(changes, "rank", s);
            }
        }
        for (int s = 0; s < 5; s++) {
            add(changes, "term", s, 0, 0, 0);
            add(changes, "about", terms + s, 2);
            add(changes, "about", terms + s, 3);
        }
        add(changes, "symbol", 0);
        add(changes, "variable", 3);
        add(changes, "rule", terms + 1, terms + 1);
        add(changes, "about", terms, 0);
        add(changes, "about", terms + 1, 0);
        for (int what = 0; what < 3; what++) {
            add(changes, "count", what);
        }
        return changes;
    }

    private static void add(List<Call> calls, String name, int... arguments) {
        calls.add(new Call(name, arguments));
    }
}
