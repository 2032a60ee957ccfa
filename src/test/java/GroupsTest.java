/** Promise 8: groups. */
public final class GroupsTest {
    public static void main(String[] args) {
        answers();
        noneAndAll();
        everyState();
        personOutside();
        badComesBeforeGone();
        questionsChangeNothing();
        Due.end();
    }

    private static void answers() {
        RelationTuples x = new RelationTuples();
        x.enter(1, 0, true);
        x.enter(1, 17, true);
        x.enter(2, 4, true);
        Due.answer("groups(3, 1)", x.groups(3, 1), 1 | (1 << 17));
        Due.answer("groups(3, 2)", x.groups(3, 2), 1 << 4);
        Due.answer("groups(3, 0)", x.groups(3, 0), 0);
        x.nest(17, 4, true);
        Due.answer("groups(4, 1)", x.groups(4, 1), 1 | (1 << 17) | (1 << 4));
        Due.answer("groups(4, 2)", x.groups(4, 2), 1 << 4);
        x.rule(1, 2, true);
        Due.answer("groups(5, 1)", x.groups(5, 1), 1 | (1 << 17) | (1 << 4) | (1 << 5));
        Due.answer("groups(5, 2)", x.groups(5, 2), (1 << 4) | (1 << 5));
        Due.answer("groups(3, 1) later", x.groups(3, 1), 1 | (1 << 17));
    }

    /** ".. as a set (bit g speaks of group g).": the empty set, the first and the last bit, and the full set. */
    private static void noneAndAll() {
        RelationTuples x = new RelationTuples();
        for (int person = 0; person < 6; person++) {
            Due.answer("none: groups(0, " + person + ")", x.groups(0, person), 0);
        }
        x.enter(0, 0, true);
        x.enter(5, 17, true);
        Due.answer("the first: groups(2, 0)", x.groups(2, 0), 1);
        Due.answer("the last: groups(2, 5)", x.groups(2, 5), 1 << 17);
        for (int group = 0; group < 18; group++) {
            x.enter(3, group, true);
        }
        Due.answer("all: groups(20, 3)", x.groups(20, 3), (1 << 18) - 1);
        Due.answer("all of one person: groups(20, 4)", x.groups(20, 4), 0);
        for (int group = 0; group < 18; group++) {
            x.enter(3, group, false);
        }
        Due.answer("none again: groups(38, 3)", x.groups(38, 3), 0);
    }

    /** ".. there is no such state: BAD; the state is not kept: GONE.": below 0, the oldest, the latest, beside them. */
    private static void everyState() {
        Edges.everyState("groups", (x, number) -> x.enter(3, number % 18, Edges.goesIn(number, 18)),
                (x, state) -> x.groups(state, 3), state -> Edges.setAfter(state, 18));
    }

    /** "Tested in this order: person outside 0..5 ..: BAD" */
    private static void personOutside() {
        Edges.numberOutside("groups", 6, RelationTuples::groups);
    }

    /** "Tested in this order: ..": at a state that is not kept, a wrong person is BAD, not GONE. */
    private static void badComesBeforeGone() {
        Edges.badBeforeGone("groups", 6, RelationTuples::groups);
    }

    private static void questionsChangeNothing() {
        Edges.leavesAll("groups(12, 2)", x -> x.groups(12, 2), 1 << 13);
        Edges.leavesAll("groups(12, 1)", x -> x.groups(12, 1), 0);
        Edges.leavesAll("groups(4, 0)", x -> x.groups(4, 0), RelationTuples.GONE);
        Edges.leavesAll("groups(13, 0)", x -> x.groups(13, 0), RelationTuples.BAD);
    }
}
