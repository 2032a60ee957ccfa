import java.util.function.IntUnaryOperator;

/** What the tests of boundary cases share: numbers out of range, and states looked at whole. */
final class Edges {
    /** The latest state of a used object, the oldest that it keeps, and the one before that. */
    static final int LATEST = 12;
    static final int OLDEST = 5;
    static final int NOT_KEPT = 4;

    interface Call {
        int on(RelationTuples x);
    }

    interface Change {
        int make(RelationTuples x, int number);
    }

    interface Question {
        int ask(RelationTuples x, int state);
    }

    interface QuestionOfTwo {
        int ask(RelationTuples x, int state, int number);
    }

    private Edges() {
    }

    /**
     * Numbers outside 0 .. bound - 1: those beside it, those that a remainder, a shift or a narrow type
     * would fold back into it, and the farthest.
     */
    static int[] outside(int bound) {
        return new int[] {-1, -2, -bound, -32, -256, Integer.MIN_VALUE, Integer.MIN_VALUE + 1,
            bound, bound + 1, 2 * bound, 31, 32, 33, 64, 256, 1 << 16, Integer.MAX_VALUE - 1, Integer.MAX_VALUE};
    }

    /** An object whose kept states all differ, with older ones that are not kept. */
    static RelationTuples usedObject() {
        RelationTuples x = new RelationTuples();
        x.enter(0, 0, true);
        x.enter(5, 17, true);
        x.nest(0, 4, true);
        x.rule(1, 2, true);
        x.enter(3, 9, true);
        x.nest(17, 0, true);
        x.rule(0, 1, true);
        x.nest(9, 17, true);
        x.enter(0, 0, false);
        x.rule(1, 2, false);
        x.nest(0, 4, false);
        x.enter(2, 13, true);
        return x;
    }

    /** All that questions can tell of an object; some 200 calls. */
    static String everything(RelationTuples x) {
        int latest = x.latest();
        StringBuilder text = new StringBuilder("latest " + latest);
        for (int state = Math.max(0, latest - 7); state <= latest; state++) {
            text.append("; state ").append(state).append(':');
            for (int person = 0; person < 6; person++) {
                text.append(' ').append(x.groups(state, person));
            }
            for (int group = 0; group < 18; group++) {
                text.append(' ').append(x.sources(state, group));
            }
        }
        return text.toString();
    }

    /** The call answers what is due on a used object, and all its states are as before. */
    static void leavesAll(String name, Call call, int want) {
        leavesAll(name + " on a used object", usedObject(), call, want, usedObject());
    }

    /** The call is BAD on a new and on a used object, and all states are as before. */
    static void refused(String name, Call call) {
        leavesAll(name, call, RelationTuples.BAD);
        leavesAll(name + " on a new object", new RelationTuples(), call, RelationTuples.BAD, new RelationTuples());
    }

    private static void leavesAll(String name, RelationTuples x, Call call, int want, RelationTuples twin) {
        Due.answer(name, call.on(x), want);
        String after = everything(x);
        String before = everything(twin);
        Due.holds(name + " leaves all as before:\n  " + before + "\n  " + after, after.equals(before));
        // A refused change may also leave a trace that only the next state would show.
        x.rule(2, 1, true);
        twin.rule(2, 1, true);
        Due.holds(name + " leaves no trace in the next state", everything(x).equals(everything(twin)));
    }

    /** What is due of a state at a latest one, if `want` tells it of every state that is kept. */
    static int dueAt(int state, int latest, IntUnaryOperator want) {
        if (state < 0 || state > latest) {
            return RelationTuples.BAD;
        }
        return state <= latest - 8 ? RelationTuples.GONE : want.applyAsInt(state);
    }

    /**
     * At every latest state from 0 to 40, three turns of the kept ones and more: asks of every number
     * from 9 below 0 to 9 above the latest, and of the farthest ones.
     */
    static void everyState(String name, Change change, Question question, IntUnaryOperator want) {
        for (int latest = 0; latest <= 40; latest++) {
            RelationTuples x = after(latest, change);
            for (int state = -9; state <= latest + 9; state++) {
                ask(name, x, question, state, latest, want);
            }
            ask(name, x, question, Integer.MIN_VALUE, latest, want);
            ask(name, x, question, Integer.MAX_VALUE, latest, want);
        }
    }

    private static void ask(String name, RelationTuples x, Question question, int state, int latest,
            IntUnaryOperator want) {
        String call = name + " of state " + state + " at latest state " + latest;
        Due.answer(call, question.ask(x, state), dueAt(state, latest, want));
    }

    /** A person or group outside 0 .. bound - 1 is BAD at every state that is kept, and where there is no state. */
    static void numberOutside(String name, int bound, QuestionOfTwo question) {
        for (int number : outside(bound)) {
            RelationTuples x = usedObject();
            for (int state = OLDEST; state <= LATEST + 1; state++) {
                Due.bad(name + " of " + number + " at state " + state, question.ask(x, state, number));
            }
            Due.bad(name + " of " + number + " at state -1", question.ask(x, -1, number));
        }
    }

    /** At every state that is not kept, all persons or groups are GONE, but those outside 0 .. bound - 1 are BAD. */
    static void badBeforeGone(String name, int bound, QuestionOfTwo question) {
        for (int state = 0; state <= NOT_KEPT; state++) {
            RelationTuples x = usedObject();
            for (int number = 0; number < bound; number++) {
                Due.gone(name + " of " + number + " at state " + state, question.ask(x, state, number));
            }
            for (int number : outside(bound)) {
                Due.bad(name + " of " + number + " at state " + state, question.ask(x, state, number));
            }
        }
    }

    static RelationTuples after(int changes, Change change) {
        RelationTuples x = new RelationTuples();
        for (int number = 1; number <= changes; number++) {
            change.make(x, number);
        }
        return x;
    }

    /** Change k speaks of element k mod size: it goes in during one round of all elements and out during the next. */
    static boolean goesIn(int number, int size) {
        return (number / size) % 2 == 0;
    }

    /** The set that so many of such changes leave. */
    static int setAfter(int changes, int size) {
        int set = 0;
        for (int number = 1; number <= changes; number++) {
            int bit = 1 << (number % size);
            set = goesIn(number, size) ? set | bit : set & ~bit;
        }
        return set;
    }
}
