/** Promise 8: groups. */
public final class GroupsTest {
    public static void main(String[] args) {
        answers();
        keptStates();
        wrongNumbers();
        Due.end();
    }

    private static void answers() {
        RelationTuples x = new RelationTuples();
        x.enter(1, 0, true);
        x.enter(1, 17, true);
        x.enter(2, 4, true);
        Due.answer("groups(3, 1)", x.groups(3, 1), 1 | (1 << 17));
        Due.answer("groups(3, 2)", x.groups(3, 2), 1 << 4);
        Due.answer("groups(3, 0)", x.groups(3, 0), 0);
        x.nest(17, 4, true);
        Due.answer("groups(4, 1)", x.groups(4, 1), 1 | (1 << 17) | (1 << 4));
        Due.answer("groups(4, 2)", x.groups(4, 2), 1 << 4);
        x.rule(1, 2, true);
        Due.answer("groups(5, 1)", x.groups(5, 1), 1 | (1 << 17) | (1 << 4) | (1 << 5));
        Due.answer("groups(5, 2)", x.groups(5, 2), (1 << 4) | (1 << 5));
        Due.answer("groups(3, 1) later", x.groups(3, 1), 1 | (1 << 17));
        for (int group = 0; group < 18; group++) {
            x.enter(5, group, true);
        }
        Due.answer("groups(23, 5)", x.groups(23, 5), (1 << 18) - 1);
    }

    private static void keptStates() {
        RelationTuples x = new RelationTuples();
        for (int i = 1; i <= 18; i++) {
            x.enter(3, i - 1, true);
            for (int state = 0; state <= i; state++) {
                int want = state + 8 > i ? (1 << state) - 1 : RelationTuples.GONE;
                Due.answer("groups(" + state + ", 3) at state " + i, x.groups(state, 3), want);
            }
            Due.answer("groups(" + (i + 1) + ", 3) at state " + i, x.groups(i + 1, 3), RelationTuples.BAD);
        }
    }

    private static void wrongNumbers() {
        RelationTuples x = new RelationTuples();
        Due.pass(x, 9);
        int[] wrongPersons = {-1, 6, 32, Integer.MIN_VALUE, Integer.MAX_VALUE};
        int[] wrongStates = {-1, 10, Integer.MIN_VALUE, Integer.MAX_VALUE};
        for (int person : wrongPersons) {
            Due.answer("groups(9, " + person + ")", x.groups(9, person), RelationTuples.BAD);
            Due.answer("groups(1, " + person + ")", x.groups(1, person), RelationTuples.BAD);
        }
        for (int state : wrongStates) {
            Due.answer("groups(" + state + ", 0)", x.groups(state, 0), RelationTuples.BAD);
        }
        Due.answer("groups(1, 0)", x.groups(1, 0), RelationTuples.GONE);
        Due.answer("groups(2, 0)", x.groups(2, 0), 0);
    }
}
