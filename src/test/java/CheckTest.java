/** Promise 6: check. */
public final class CheckTest {
    public static void main(String[] args) {
        answers();
        everyState();
        personOutside();
        groupOutside();
        bothOutside();
        badComesBeforeGone();
        questionsChangeNothing();
        Due.end();
    }

    /** "Whether a person belongs to a group in a state: 1 or 0." */
    private static void answers() {
        RelationTuples x = new RelationTuples();
        x.enter(5, 17, true);
        x.nest(17, 0, true);
        x.rule(0, 2, true);
        for (int person = 0; person < 6; person++) {
            for (int group = 0; group < 18; group++) {
                boolean belongs = person == 5 && (group == 17 || group == 0 || group == 2);
                Due.answer("check(3, " + person + ", " + group + ")", x.check(3, person, group), belongs ? 1 : 0);
            }
        }
        Due.answer("check(2, 5, 2)", x.check(2, 5, 2), 0);
        Due.answer("check(2, 5, 0)", x.check(2, 5, 0), 1);
        Due.answer("check(1, 5, 0)", x.check(1, 5, 0), 0);
        Due.answer("check(0, 5, 17)", x.check(0, 5, 17), 0);
    }

    /** ".. there is no such state: BAD; the state is not kept: GONE.": below 0, the oldest, the latest, beside them. */
    private static void everyState() {
        Edges.everyState("check", (x, number) -> x.enter(4, 11, number % 3 == 1),
                (x, state) -> x.check(state, 4, 11), state -> state % 3 == 1 ? 1 : 0);
    }

    /** "Tested in this order: person outside 0..5, ..": the person by itself. */
    private static void personOutside() {
        Edges.numberOutside("check of group 0", 6, (x, state, person) -> x.check(state, person, 0));
        Edges.numberOutside("check of group 17", 6, (x, state, person) -> x.check(state, person, 17));
    }

    /** ".. group outside 0..17, ..": the group by itself. */
    private static void groupOutside() {
        Edges.numberOutside("check of person 0", 18, (x, state, group) -> x.check(state, 0, group));
        Edges.numberOutside("check of person 5", 18, (x, state, group) -> x.check(state, 5, group));
    }

    /** "Tested in this order: person outside 0..5, group outside 0..17, ..": both at once. */
    private static void bothOutside() {
        Edges.numberOutside("check of group -1", 6, (x, state, person) -> x.check(state, person, -1));
        Edges.numberOutside("check of group 18", 6, (x, state, person) -> x.check(state, person, 18));
    }

    /** "Tested in this order: ..": at a state that is not kept, a wrong person or group is BAD, not GONE. */
    private static void badComesBeforeGone() {
        Edges.badBeforeGone("check of group 0", 6, (x, state, person) -> x.check(state, person, 0));
        Edges.badBeforeGone("check of person 0", 18, (x, state, group) -> x.check(state, 0, group));
        RelationTuples x = Edges.usedObject();
        Due.bad("check(0, 6, 18)", x.check(0, 6, 18));
        Due.bad("check(4, -1, -1)", x.check(Edges.NOT_KEPT, -1, -1));
    }

    private static void questionsChangeNothing() {
        Edges.leavesAll("check(12, 2, 13)", x -> x.check(12, 2, 13), 1);
        Edges.leavesAll("check(12, 0, 0)", x -> x.check(12, 0, 0), 0);
        Edges.leavesAll("check(4, 0, 0)", x -> x.check(4, 0, 0), RelationTuples.GONE);
        Edges.leavesAll("check(13, 0, 0)", x -> x.check(13, 0, 0), RelationTuples.BAD);
    }
}
