/** Promise 10: changed. */
public final class ChangedTest {
    public static void main(String[] args) {
        answers();
        everyCoupleAtOnce();
        keptStates();
        wrongNumbers();
        Due.end();
    }

    private static void both(RelationTuples x, int first, int second, int want) {
        Due.answer("changed(" + first + ", " + second + ")", x.changed(first, second), want);
        Due.answer("changed(" + second + ", " + first + ")", x.changed(second, first), want);
    }

    private static void answers() {
        RelationTuples x = new RelationTuples();
        x.enter(0, 0, true);
        x.enter(1, 0, true);
        x.nest(0, 10, true);
        x.enter(0, 0, false);
        x.enter(5, 17, true);
        both(x, 0, 0, 0);
        both(x, 0, 1, 1);
        both(x, 0, 2, 2);
        both(x, 2, 3, 2);
        both(x, 0, 3, 4);
        both(x, 3, 4, 2);
        both(x, 1, 4, 3);
        both(x, 3, 5, 3);
        both(x, 5, 5, 0);
        x.enter(1, 10, true);
        both(x, 5, 6, 0);
        x.nest(0, 10, false);
        both(x, 6, 7, 0);
    }

    private static void everyCoupleAtOnce() {
        RelationTuples x = new RelationTuples();
        for (int person = 0; person < 6; person++) {
            x.enter(person, 0, true);
        }
        for (int outer = 3; outer < 18; outer += 3) {
            x.nest(0, outer, true);
        }
        x.rule(0, 1, true);
        x.rule(0, 2, true);
        both(x, 12, 13, 36);
        x.nest(0, 3, false);
        both(x, 13, 14, 18);
        for (int person = 0; person < 6; person++) {
            x.enter(person, 0, false);
        }
        both(x, 13, 20, 108);
    }

    private static void keptStates() {
        RelationTuples x = new RelationTuples();
        x.enter(0, 0, true);
        Due.pass(x, 6);
        both(x, 0, 7, 1);
        Due.pass(x, 1);
        both(x, 0, 8, RelationTuples.GONE);
        both(x, 0, 0, RelationTuples.GONE);
        both(x, 1, 8, 0);
    }

    private static void wrongNumbers() {
        RelationTuples x = new RelationTuples();
        Due.pass(x, 9);
        int[] wrongStates = {-1, 10, Integer.MIN_VALUE, Integer.MAX_VALUE};
        for (int state : wrongStates) {
            both(x, state, 9, RelationTuples.BAD);
            both(x, state, state, RelationTuples.BAD);
            both(x, state, 0, RelationTuples.BAD);
            both(x, state, 1, RelationTuples.BAD);
        }
        both(x, 1, 0, RelationTuples.GONE);
        both(x, 1, 2, RelationTuples.GONE);
        both(x, 2, 9, 0);
    }
}
