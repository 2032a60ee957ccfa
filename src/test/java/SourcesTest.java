/** Promise 9: sources. */
public final class SourcesTest {
    public static void main(String[] args) {
        answers();
        longestWay();
        keptStates();
        wrongNumbers();
        Due.end();
    }

    private static void answers() {
        RelationTuples x = new RelationTuples();
        x.enter(0, 0, true);
        x.enter(0, 1, true);
        Due.answer("persons make no source", x.sources(2, 1), 1 << 1);
        x.nest(0, 7, true);
        x.nest(7, 17, true);
        Due.answer("sources(4, 17)", x.sources(4, 17), 1 | (1 << 7) | (1 << 17));
        Due.answer("sources(4, 7)", x.sources(4, 7), 1 | (1 << 7));
        Due.answer("sources(4, 0)", x.sources(4, 0), 1);
        x.rule(2, 1, true);
        Due.answer("sources(5, 17)", x.sources(5, 17), 1 | (1 << 7) | (1 << 8) | (1 << 17));
        Due.answer("sources(5, 16)", x.sources(5, 16), 1 | (1 << 7) | (1 << 8) | (1 << 16) | (1 << 17));
        x.enter(0, 0, false);
        Due.answer("sources without anybody entered", x.sources(6, 7), 1 | (1 << 7) | (1 << 8));
        x.nest(0, 7, false);
        Due.answer("sources(7, 17)", x.sources(7, 17), (1 << 7) | (1 << 8) | (1 << 17));
        Due.answer("sources(6, 17) later", x.sources(6, 17), 1 | (1 << 7) | (1 << 8) | (1 << 17));
    }

    private static void longestWay() {
        int[] order = {9, 3, 14, 0, 17, 6, 11, 2, 8, 13, 5, 16, 1, 10, 4, 15, 7, 12};
        RelationTuples x = new RelationTuples();
        for (int i = 0; i + 1 < order.length; i++) {
            x.nest(order[i], order[i + 1], true);
        }
        int want = 0;
        for (int group : order) {
            want |= 1 << group;
            Due.answer("sources of " + group + " on a long way", x.sources(17, group), want);
        }
    }

    private static void keptStates() {
        RelationTuples x = new RelationTuples();
        for (int i = 1; i <= 17; i++) {
            x.nest(i, 0, true);
            for (int state = 0; state <= i; state++) {
                int want = state + 8 > i ? (2 << state) - 1 : RelationTuples.GONE;
                Due.answer("sources(" + state + ", 0) at state " + i, x.sources(state, 0), want);
            }
            Due.answer("sources(" + (i + 1) + ", 0) at state " + i, x.sources(i + 1, 0), RelationTuples.BAD);
        }
    }

    private static void wrongNumbers() {
        RelationTuples x = new RelationTuples();
        Due.pass(x, 9);
        int[] wrongGroups = {-1, 18, 32, Integer.MIN_VALUE, Integer.MAX_VALUE};
        int[] wrongStates = {-1, 10, Integer.MIN_VALUE, Integer.MAX_VALUE};
        for (int group : wrongGroups) {
            Due.answer("sources(9, " + group + ")", x.sources(9, group), RelationTuples.BAD);
            Due.answer("sources(1, " + group + ")", x.sources(1, group), RelationTuples.BAD);
        }
        for (int state : wrongStates) {
            Due.answer("sources(" + state + ", 0)", x.sources(state, 0), RelationTuples.BAD);
        }
        Due.answer("sources(1, 0)", x.sources(1, 0), RelationTuples.GONE);
        Due.answer("sources(2, 0)", x.sources(2, 0), 1);
    }
}
