/** Promise 4: rule. */
public final class RuleTest {
    public static void main(String[] args) {
        everyCouple();
        rulesInARow();
        ruleOutlivesEntry();
        aRuleHoldsOnce();
        endingWhatDoesNotHold();
        fromOutside();
        toOutside();
        bothOutside();
        sameRelation();
        numberOfTheNewState();
        Due.end();
    }

    /** "Makes the rule from relation r to relation s hold or not.": relations 0 to 2. */
    private static void everyCouple() {
        for (int r = 0; r < 3; r++) {
            for (int s = 0; s < 3; s++) {
                if (r != s) {
                    oneCouple(r, s);
                }
            }
        }
    }

    private static void oneCouple(int r, int s) {
        String couple = "from " + r + " to " + s;
        RelationTuples x = new RelationTuples();
        for (int thing = 0; thing < 6; thing++) {
            x.enter(thing, 3 * thing + r, true);
        }
        Due.answer("rule " + couple, x.rule(r, s, true), 7);
        Due.answer("end of rule " + couple, x.rule(r, s, false), 8);
        for (int thing = 0; thing < 6; thing++) {
            int own = 1 << (3 * thing + r);
            int both = own | (1 << (3 * thing + s));
            Due.answer("rule " + couple + ": groups(6, " + thing + ")", x.groups(6, thing), own);
            Due.answer("rule " + couple + ": groups(7, " + thing + ")", x.groups(7, thing), both);
            Due.answer("rule " + couple + ": groups(8, " + thing + ")", x.groups(8, thing), own);
        }
    }

    private static void rulesInARow() {
        RelationTuples x = new RelationTuples();
        x.rule(2, 1, true);
        x.rule(1, 0, true);
        x.enter(3, 17, true);
        Due.answer("rules 2 to 1 to 0", x.groups(3, 3), 0b111 << 15);
        x.rule(0, 2, true);
        Due.answer("rules in a ring", x.groups(4, 3), 0b111 << 15);
        x.nest(15, 2, true);
        Due.answer("a rule, an entry, a rule", x.groups(5, 3), (0b111 << 15) | 0b111);
        x.rule(2, 1, false);
        Due.answer("the way is cut", x.groups(6, 3), 1 << 17);
    }

    private static void ruleOutlivesEntry() {
        RelationTuples x = new RelationTuples();
        x.enter(0, 0, true);
        x.rule(0, 1, true);
        x.nest(0, 1, true);
        Due.answer("a rule and then an entry", x.members(3, 1), 1);
        x.nest(0, 1, false);
        Due.answer("the rule stays when the entry is struck out", x.members(4, 1), 1);
    }

    /** "Makes the rule from relation r to relation s hold or not.": made twice, ended once. */
    private static void aRuleHoldsOnce() {
        RelationTuples x = new RelationTuples();
        Due.answer("a rule", x.rule(0, 1, true), 1);
        Due.answer("the rule again", x.rule(0, 1, true), 2);
        Due.answer("sources(2, 1)", x.sources(2, 1), 0b11);
        Due.answer("one end suffices", x.rule(0, 1, false), 3);
        Due.answer("sources(3, 1)", x.sources(3, 1), 0b10);
    }

    /** "Makes the rule from relation r to relation s hold or not.": it did not hold before. */
    private static void endingWhatDoesNotHold() {
        RelationTuples x = new RelationTuples();
        Due.answer("ending no rule", x.rule(0, 1, false), 1);
        Due.answer("sources(1, 1)", x.sources(1, 1), 0b10);
        x.rule(1, 0, true);
        Due.answer("ending the other way round", x.rule(0, 1, false), 3);
        Due.answer("sources(3, 0)", x.sources(3, 0), 0b11);
        x.rule(2, 1, true);
        Due.answer("ending a way of two rules", x.rule(2, 0, false), 5);
        Due.answer("sources(5, 0)", x.sources(5, 0), 0b111);
    }

    /** "r or s outside 0..2 or r = s: BAD.": r by itself. */
    private static void fromOutside() {
        for (int r : Edges.outside(3)) {
            for (int s = 0; s < 3; s++) {
                refused(r, s);
            }
        }
    }

    /** "r or s outside 0..2 or r = s: BAD.": s by itself. */
    private static void toOutside() {
        for (int s : Edges.outside(3)) {
            for (int r = 0; r < 3; r++) {
                refused(r, s);
            }
        }
    }

    /** "r or s outside 0..2 or r = s: BAD.": both outside, and apart. */
    private static void bothOutside() {
        refused(-1, 3);
        refused(3, -1);
        refused(-1, -2);
        refused(3, 4);
    }

    /** "r or s outside 0..2 or r = s: BAD.": the same relation, inside and outside. */
    private static void sameRelation() {
        for (int relation = -2; relation <= 4; relation++) {
            refused(relation, relation);
        }
    }

    private static void refused(int r, int s) {
        String couple = r + ", " + s;
        Edges.refused("rule(" + couple + ", true)", x -> x.rule(r, s, true));
        Edges.refused("rule(" + couple + ", false)", x -> x.rule(r, s, false));
    }

    /** "Else answers the number of the new state.": refused calls between count for nothing. */
    private static void numberOfTheNewState() {
        RelationTuples x = new RelationTuples();
        for (int number = 1; number <= 40; number++) {
            int r = number % 3;
            Due.answer("rule as change " + number, x.rule(r, (r + 1) % 3, number % 5 != 0), number);
            Due.answer("latest() after change " + number, x.latest(), number);
            Due.bad("rule(3, 0, true) after change " + number, x.rule(3, 0, true));
            Due.bad("rule(0, -1, false) after change " + number, x.rule(0, -1, false));
            Due.bad("rule(1, 1, true) after change " + number, x.rule(1, 1, true));
        }
    }
}
