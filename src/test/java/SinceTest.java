/** Promise 11: since. */
public final class SinceTest {
    private static final int NEVER = -3;

    public static void main(String[] args) {
        answers();
        keptStates();
        wrongNumbers();
        Due.end();
    }

    private static void answers() {
        RelationTuples x = new RelationTuples();
        x.enter(4, 9, true);
        x.enter(4, 9, false);
        x.nest(9, 17, true);
        x.enter(4, 9, true);
        Due.answer("since(4, 9, 0)", x.since(4, 9, 0), 1);
        Due.answer("since(4, 9, 1)", x.since(4, 9, 1), 1);
        Due.answer("since(4, 9, 2)", x.since(4, 9, 2), 4);
        Due.answer("since(4, 9, 4)", x.since(4, 9, 4), 4);
        Due.answer("since(4, 17, 0)", x.since(4, 17, 0), 4);
        Due.answer("since(4, 10, 0)", x.since(4, 10, 0), NEVER);
        Due.answer("since(3, 9, 0)", x.since(3, 9, 0), NEVER);
        x.rule(2, 0, true);
        Due.answer("since(4, 15, 0)", x.since(4, 15, 0), 5);
        x.enter(4, 9, false);
        Due.answer("since(4, 9, 5)", x.since(4, 9, 5), 5);
        Due.answer("since(4, 9, 6)", x.since(4, 9, 6), NEVER);
    }

    private static void keptStates() {
        RelationTuples x = new RelationTuples();
        x.enter(0, 0, true);
        Due.pass(x, 7);
        Due.answer("since(0, 0, 0) at state 8", x.since(0, 0, 0), 1);
        Due.pass(x, 1);
        Due.answer("since(0, 0, 0) at state 9", x.since(0, 0, 0), 2);
        Due.answer("since(0, 0, 1) at state 9", x.since(0, 0, 1), 2);
        Due.answer("since(0, 0, 3) at state 9", x.since(0, 0, 3), 3);
        x.enter(0, 0, false);
        Due.pass(x, 6);
        Due.answer("since(0, 0, 0) at state 16", x.since(0, 0, 0), 9);
        Due.pass(x, 1);
        Due.answer("since(0, 0, 0) at state 17", x.since(0, 0, 0), NEVER);
        Due.answer("since(0, 0, 17) at state 17", x.since(0, 0, 17), NEVER);
    }

    private static void wrongNumbers() {
        RelationTuples x = new RelationTuples();
        Due.pass(x, 9);
        int[] wrongPersons = {-1, 6, 32, Integer.MIN_VALUE, Integer.MAX_VALUE};
        int[] wrongGroups = {-1, 18, 32, Integer.MIN_VALUE, Integer.MAX_VALUE};
        int[] wrongStates = {-1, 10, Integer.MIN_VALUE, Integer.MAX_VALUE};
        for (int person : wrongPersons) {
            Due.answer("since(" + person + ", 0, 0)", x.since(person, 0, 0), RelationTuples.BAD);
        }
        for (int group : wrongGroups) {
            Due.answer("since(0, " + group + ", 0)", x.since(0, group, 0), RelationTuples.BAD);
        }
        for (int from : wrongStates) {
            Due.answer("since(0, 0, " + from + ")", x.since(0, 0, from), RelationTuples.BAD);
        }
        Due.answer("since(0, 0, 9)", x.since(0, 0, 9), NEVER);
    }
}
