/** Promise 6: check. */
public final class CheckTest {
    public static void main(String[] args) {
        answers();
        keptStates();
        wrongNumbers();
        badComesBeforeGone();
        Due.end();
    }

    private static void answers() {
        RelationTuples x = new RelationTuples();
        x.enter(5, 17, true);
        x.nest(17, 0, true);
        x.rule(0, 2, true);
        for (int person = 0; person < 6; person++) {
            for (int group = 0; group < 18; group++) {
                boolean belongs = person == 5 && (group == 17 || group == 0 || group == 2);
                Due.answer("check(3, " + person + ", " + group + ")", x.check(3, person, group), belongs ? 1 : 0);
            }
        }
        Due.answer("check(2, 5, 2)", x.check(2, 5, 2), 0);
        Due.answer("check(2, 5, 0)", x.check(2, 5, 0), 1);
        Due.answer("check(1, 5, 0)", x.check(1, 5, 0), 0);
        Due.answer("check(0, 5, 17)", x.check(0, 5, 17), 0);
    }

    private static void keptStates() {
        RelationTuples x = new RelationTuples();
        x.enter(0, 0, true);
        Due.pass(x, 6);
        Due.answer("check(0, 0, 0) at state 7", x.check(0, 0, 0), 0);
        Due.answer("check(1, 0, 0) at state 7", x.check(1, 0, 0), 1);
        Due.pass(x, 1);
        Due.answer("check(0, 0, 0) at state 8", x.check(0, 0, 0), RelationTuples.GONE);
        Due.answer("check(1, 0, 0) at state 8", x.check(1, 0, 0), 1);
        Due.answer("check(8, 0, 0) at state 8", x.check(8, 0, 0), 1);
        Due.answer("check(9, 0, 0) at state 8", x.check(9, 0, 0), RelationTuples.BAD);
        Due.pass(x, 1);
        Due.answer("check(1, 0, 0) at state 9", x.check(1, 0, 0), RelationTuples.GONE);
    }

    private static void wrongNumbers() {
        RelationTuples x = new RelationTuples();
        int[] wrongPersons = {-1, 6, 32, Integer.MIN_VALUE, Integer.MAX_VALUE};
        int[] wrongGroups = {-1, 18, 32, Integer.MIN_VALUE, Integer.MAX_VALUE};
        int[] wrongStates = {-1, 1, 8, Integer.MIN_VALUE, Integer.MAX_VALUE};
        for (int person : wrongPersons) {
            Due.answer("check(0, " + person + ", 0)", x.check(0, person, 0), RelationTuples.BAD);
        }
        for (int group : wrongGroups) {
            Due.answer("check(0, 0, " + group + ")", x.check(0, 0, group), RelationTuples.BAD);
        }
        for (int state : wrongStates) {
            Due.answer("check(" + state + ", 0, 0)", x.check(state, 0, 0), RelationTuples.BAD);
        }
    }

    private static void badComesBeforeGone() {
        RelationTuples x = new RelationTuples();
        Due.pass(x, 20);
        Due.answer("check(12, 0, 0)", x.check(12, 0, 0), RelationTuples.GONE);
        Due.answer("check(13, 0, 0)", x.check(13, 0, 0), 0);
        Due.answer("check(12, 6, 0)", x.check(12, 6, 0), RelationTuples.BAD);
        Due.answer("check(12, -1, 0)", x.check(12, -1, 0), RelationTuples.BAD);
        Due.answer("check(12, 0, 18)", x.check(12, 0, 18), RelationTuples.BAD);
        Due.answer("check(12, 0, -1)", x.check(12, 0, -1), RelationTuples.BAD);
        Due.answer("check(-1, 0, 0)", x.check(-1, 0, 0), RelationTuples.BAD);
    }
}
