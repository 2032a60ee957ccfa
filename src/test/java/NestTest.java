/** Promise 3: nest. */
public final class NestTest {
    private static final int ALL_GROUPS = (1 << 18) - 1;

    public static void main(String[] args) {
        everyCouple();
        chainsInBothOrders();
        ringsOfGroups();
        groupInItself();
        entryOutlivesRule();
        anEntryIsThereOnce();
        strikingOutWhatIsNotThere();
        innerOutside();
        outerOutside();
        bothOutside();
        numberOfTheNewState();
        Due.end();
    }

    /** "Enters group inner in group outer (true), or strikes the entry out.": groups 0 to 17, a group in itself too. */
    private static void everyCouple() {
        for (int inner = 0; inner < 18; inner++) {
            for (int outer = 0; outer < 18; outer++) {
                String couple = inner + " in " + outer;
                RelationTuples x = new RelationTuples();
                x.enter(2, inner, true);
                Due.answer("nest " + couple, x.nest(inner, outer, true), 2);
                Due.answer(couple + ": groups(2, 2)", x.groups(2, 2), (1 << inner) | (1 << outer));
                Due.answer(couple + ": groups(1, 2)", x.groups(1, 2), 1 << inner);
                Due.answer("nest out " + couple, x.nest(inner, outer, false), 3);
                Due.answer(couple + ": groups(3, 2)", x.groups(3, 2), 1 << inner);
                Due.answer(couple + ": groups(2, 2) later", x.groups(2, 2), (1 << inner) | (1 << outer));
            }
        }
    }

    private static void chainsInBothOrders() {
        RelationTuples up = new RelationTuples();
        RelationTuples down = new RelationTuples();
        for (int i = 0; i < 17; i++) {
            up.nest(i, i + 1, true);
            down.nest(i + 1, i, true);
        }
        up.enter(0, 0, true);
        down.enter(0, 17, true);
        Due.answer("groups along a rising chain", up.groups(18, 0), ALL_GROUPS);
        Due.answer("groups along a falling chain", down.groups(18, 0), ALL_GROUPS);
        up.nest(8, 9, false);
        down.nest(9, 8, false);
        Due.answer("groups along a broken rising chain", up.groups(19, 0), (1 << 9) - 1);
        Due.answer("groups along a broken falling chain", down.groups(19, 0), ((1 << 9) - 1) << 9);
    }

    private static void ringsOfGroups() {
        RelationTuples x = new RelationTuples();
        x.nest(1, 7, true);
        x.nest(7, 13, true);
        x.nest(13, 1, true);
        Due.answer("nobody belongs for a ring alone", x.members(3, 1), 0);
        x.enter(4, 7, true);
        Due.answer("groups in a ring", x.groups(4, 4), (1 << 1) | (1 << 7) | (1 << 13));
        x.enter(4, 7, false);
        Due.answer("a ring keeps nobody in", x.groups(5, 4), 0);
    }

    private static void groupInItself() {
        RelationTuples x = new RelationTuples();
        Due.answer("nest(13, 13, true)", x.nest(13, 13, true), 1);
        Due.answer("nobody belongs for a group in itself", x.members(1, 13), 0);
        x.enter(4, 13, true);
        Due.answer("members of a group in itself", x.members(2, 13), 1 << 4);
        x.enter(4, 13, false);
        Due.answer("a group in itself keeps nobody in", x.members(3, 13), 0);
        x.enter(4, 13, true);
        Due.answer("nest(13, 13, false)", x.nest(13, 13, false), 5);
        Due.answer("the persons entered stay", x.members(5, 13), 1 << 4);
    }

    private static void entryOutlivesRule() {
        RelationTuples x = new RelationTuples();
        x.enter(0, 0, true);
        x.nest(0, 1, true);
        x.rule(0, 1, true);
        Due.answer("an entry and then a rule", x.members(3, 1), 1);
        x.rule(0, 1, false);
        Due.answer("the entry stays when the rule ends", x.members(4, 1), 1);
    }

    /** "Enters group inner in group outer (true), or strikes the entry out.": entered twice, struck out once. */
    private static void anEntryIsThereOnce() {
        RelationTuples x = new RelationTuples();
        Due.answer("entering", x.nest(1, 2, true), 1);
        Due.answer("entering again", x.nest(1, 2, true), 2);
        Due.answer("sources(2, 2)", x.sources(2, 2), (1 << 1) | (1 << 2));
        Due.answer("one striking out suffices", x.nest(1, 2, false), 3);
        Due.answer("sources(3, 2)", x.sources(3, 2), 1 << 2);
    }

    /** "Enters group inner in group outer (true), or strikes the entry out.": there is none to strike out. */
    private static void strikingOutWhatIsNotThere() {
        RelationTuples x = new RelationTuples();
        Due.answer("striking out no entry", x.nest(1, 2, false), 1);
        Due.answer("sources(1, 2)", x.sources(1, 2), 1 << 2);
        x.nest(2, 1, true);
        Due.answer("striking out the other way round", x.nest(1, 2, false), 3);
        Due.answer("sources(3, 1)", x.sources(3, 1), (1 << 1) | (1 << 2));
        x.nest(5, 2, true);
        Due.answer("striking out a way of two steps", x.nest(5, 1, false), 5);
        Due.answer("sources(5, 1)", x.sources(5, 1), (1 << 1) | (1 << 2) | (1 << 5));
    }

    /** "A number outside 0..17: BAD.": the inner one by itself. */
    private static void innerOutside() {
        for (int inner : Edges.outside(18)) {
            for (int outer = 0; outer <= 17; outer += 17) {
                refused(inner, outer);
            }
        }
    }

    /** "A number outside 0..17: BAD.": the outer one by itself. */
    private static void outerOutside() {
        for (int outer : Edges.outside(18)) {
            for (int inner = 0; inner <= 17; inner += 17) {
                refused(inner, outer);
            }
        }
    }

    /** "A number outside 0..17: BAD.": both at once, the same number too. */
    private static void bothOutside() {
        refused(-1, -1);
        refused(-1, 18);
        refused(18, -1);
        refused(18, 18);
    }

    private static void refused(int inner, int outer) {
        String couple = inner + ", " + outer;
        Edges.refused("nest(" + couple + ", true)", x -> x.nest(inner, outer, true));
        Edges.refused("nest(" + couple + ", false)", x -> x.nest(inner, outer, false));
    }

    /** "Else answers the number of the new state.": refused calls between count for nothing. */
    private static void numberOfTheNewState() {
        RelationTuples x = new RelationTuples();
        for (int number = 1; number <= 40; number++) {
            Due.answer("nest as change " + number, x.nest(number % 18, number % 7, number % 5 != 0), number);
            Due.answer("latest() after change " + number, x.latest(), number);
            Due.bad("nest(18, 0, true) after change " + number, x.nest(18, 0, true));
            Due.bad("nest(0, -1, false) after change " + number, x.nest(0, -1, false));
        }
    }
}
