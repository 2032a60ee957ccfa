/** Promise 4: rule. */
public final class RuleTest {
    public static void main(String[] args) {
        everyCouple();
        rulesInARow();
        ruleOutlivesEntry();
        changesThatChangeNothing();
        wrongNumbers();
        Due.end();
    }

    private static void everyCouple() {
        for (int r = 0; r < 3; r++) {
            for (int s = 0; s < 3; s++) {
                if (r != s) {
                    oneCouple(r, s);
                }
            }
        }
    }

    private static void oneCouple(int r, int s) {
        String couple = "from " + r + " to " + s;
        RelationTuples x = new RelationTuples();
        for (int thing = 0; thing < 6; thing++) {
            x.enter(thing, 3 * thing + r, true);
        }
        Due.answer("rule " + couple, x.rule(r, s, true), 7);
        Due.answer("end of rule " + couple, x.rule(r, s, false), 8);
        for (int thing = 0; thing < 6; thing++) {
            int own = 1 << (3 * thing + r);
            int both = own | (1 << (3 * thing + s));
            Due.answer("rule " + couple + ": groups(6, " + thing + ")", x.groups(6, thing), own);
            Due.answer("rule " + couple + ": groups(7, " + thing + ")", x.groups(7, thing), both);
            Due.answer("rule " + couple + ": groups(8, " + thing + ")", x.groups(8, thing), own);
        }
    }

    private static void rulesInARow() {
        RelationTuples x = new RelationTuples();
        x.rule(2, 1, true);
        x.rule(1, 0, true);
        x.enter(3, 17, true);
        Due.answer("rules 2 to 1 to 0", x.groups(3, 3), 0b111 << 15);
        x.rule(0, 2, true);
        Due.answer("rules in a ring", x.groups(4, 3), 0b111 << 15);
        x.nest(15, 2, true);
        Due.answer("a rule, an entry, a rule", x.groups(5, 3), (0b111 << 15) | 0b111);
        x.rule(2, 1, false);
        Due.answer("the way is cut", x.groups(6, 3), 1 << 17);
    }

    private static void ruleOutlivesEntry() {
        RelationTuples x = new RelationTuples();
        x.enter(0, 0, true);
        x.rule(0, 1, true);
        x.nest(0, 1, true);
        x.nest(0, 1, false);
        Due.answer("the rule stays when the entry is struck out", x.members(4, 1), 1);
    }

    private static void changesThatChangeNothing() {
        RelationTuples x = new RelationTuples();
        Due.answer("ending no rule", x.rule(0, 1, false), 1);
        Due.answer("sources(1, 1)", x.sources(1, 1), 1 << 1);
        Due.answer("a rule", x.rule(0, 1, true), 2);
        Due.answer("the rule again", x.rule(0, 1, true), 3);
        Due.answer("its end", x.rule(0, 1, false), 4);
        Due.answer("sources(4, 1)", x.sources(4, 1), 1 << 1);
    }

    private static void wrongNumbers() {
        RelationTuples x = new RelationTuples();
        int[] wrong = {-1, 3, 32, Integer.MIN_VALUE, Integer.MAX_VALUE};
        for (int relation : wrong) {
            Due.answer("rule(" + relation + ", 0, true)", x.rule(relation, 0, true), RelationTuples.BAD);
            Due.answer("rule(0, " + relation + ", true)", x.rule(0, relation, true), RelationTuples.BAD);
            Due.answer("rule(" + relation + ", 0, false)", x.rule(relation, 0, false), RelationTuples.BAD);
            Due.answer("rule(0, " + relation + ", false)", x.rule(0, relation, false), RelationTuples.BAD);
        }
        for (int relation = 0; relation < 3; relation++) {
            String same = relation + ", " + relation;
            Due.answer("rule(" + same + ", true)", x.rule(relation, relation, true), RelationTuples.BAD);
            Due.answer("rule(" + same + ", false)", x.rule(relation, relation, false), RelationTuples.BAD);
        }
        Due.answer("a BAD rule makes no state", x.latest(), 0);
        for (int group = 0; group < 18; group++) {
            Due.answer("a BAD rule leads nothing to " + group, x.sources(0, group), 1 << group);
        }
    }
}
