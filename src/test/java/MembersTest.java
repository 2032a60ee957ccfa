/** Promise 7: members. */
public final class MembersTest {
    public static void main(String[] args) {
        answers();
        keptStates();
        wrongNumbers();
        Due.end();
    }

    private static void answers() {
        RelationTuples x = new RelationTuples();
        for (int person = 0; person < 6; person++) {
            x.enter(person, 3 * person, true);
        }
        x.nest(0, 17, true);
        x.nest(15, 17, true);
        Due.answer("members of two inner groups", x.members(8, 17), 0b100001);
        x.nest(3, 15, true);
        x.enter(2, 17, true);
        Due.answer("members by entry and by two steps", x.members(10, 17), 0b100111);
        Due.answer("members of the inner group", x.members(10, 15), 0b100010);
        x.rule(0, 1, true);
        Due.answer("members by a rule", x.members(11, 16), 0b100010);
        Due.answer("members that no rule adds", x.members(11, 17), 0b100111);
        for (int person = 0; person < 6; person++) {
            x.enter(person, 8, true);
        }
        Due.answer("members: everybody", x.members(17, 8), 0b111111);
    }

    private static void keptStates() {
        RelationTuples x = new RelationTuples();
        for (int i = 1; i <= 30; i++) {
            x.enter(i % 6, 9, (i / 6) % 2 == 0);
            int[] wants = new int[i + 1];
            for (int state = 1; state <= i; state++) {
                int bit = 1 << (state % 6);
                wants[state] = (state / 6) % 2 == 0 ? wants[state - 1] | bit : wants[state - 1] & ~bit;
            }
            for (int state = 0; state <= i; state++) {
                int want = state + 8 > i ? wants[state] : RelationTuples.GONE;
                Due.answer("members(" + state + ", 9) at state " + i, x.members(state, 9), want);
            }
            Due.answer("members(" + (i + 1) + ", 9) at state " + i, x.members(i + 1, 9), RelationTuples.BAD);
        }
    }

    private static void wrongNumbers() {
        RelationTuples x = new RelationTuples();
        Due.pass(x, 9);
        int[] wrongGroups = {-1, 18, 32, Integer.MIN_VALUE, Integer.MAX_VALUE};
        int[] wrongStates = {-1, 10, Integer.MIN_VALUE, Integer.MAX_VALUE};
        for (int group : wrongGroups) {
            Due.answer("members(9, " + group + ")", x.members(9, group), RelationTuples.BAD);
            Due.answer("members(1, " + group + ")", x.members(1, group), RelationTuples.BAD);
        }
        for (int state : wrongStates) {
            Due.answer("members(" + state + ", 0)", x.members(state, 0), RelationTuples.BAD);
        }
        Due.answer("members(1, 0)", x.members(1, 0), RelationTuples.GONE);
        Due.answer("members(2, 0)", x.members(2, 0), 0);
    }
}
