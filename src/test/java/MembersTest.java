/** Promise 7: members. */
public final class MembersTest {
    public static void main(String[] args) {
        answers();
        nobodyAndEverybody();
        everyState();
        groupOutside();
        badComesBeforeGone();
        questionsChangeNothing();
        Due.end();
    }

    private static void answers() {
        RelationTuples x = new RelationTuples();
        for (int person = 0; person < 6; person++) {
            x.enter(person, 3 * person, true);
        }
        x.nest(0, 17, true);
        x.nest(15, 17, true);
        Due.answer("members of two inner groups", x.members(8, 17), 0b100001);
        x.nest(3, 15, true);
        x.enter(2, 17, true);
        Due.answer("members by entry and by two steps", x.members(10, 17), 0b100111);
        Due.answer("members of the inner group", x.members(10, 15), 0b100010);
        x.rule(0, 1, true);
        Due.answer("members by a rule", x.members(11, 16), 0b100010);
        Due.answer("members that no rule adds", x.members(11, 17), 0b100111);
    }

    /** ".. as a set (bit p speaks of person p).": the empty set, each bit by itself, and the full set. */
    private static void nobodyAndEverybody() {
        RelationTuples x = new RelationTuples();
        for (int group = 0; group < 18; group++) {
            Due.answer("nobody: members(0, " + group + ")", x.members(0, group), 0);
        }
        for (int person = 0; person < 6; person++) {
            x.enter(person, 3 * person, true);
            Due.answer("one: members(" + (person + 1) + ")", x.members(person + 1, 3 * person), 1 << person);
        }
        for (int person = 0; person < 6; person++) {
            x.enter(person, 8, true);
        }
        Due.answer("everybody: members(12, 8)", x.members(12, 8), 0b111111);
        for (int person = 0; person < 6; person++) {
            x.enter(person, 8, false);
        }
        Due.answer("nobody again: members(18, 8)", x.members(18, 8), 0);
    }

    /** ".. there is no such state: BAD; the state is not kept: GONE.": below 0, the oldest, the latest, beside them. */
    private static void everyState() {
        Edges.everyState("members", (x, number) -> x.enter(number % 6, 9, Edges.goesIn(number, 6)),
                (x, state) -> x.members(state, 9), state -> Edges.setAfter(state, 6));
    }

    /** "Tested in this order: group outside 0..17 ..: BAD" */
    private static void groupOutside() {
        Edges.numberOutside("members", 18, RelationTuples::members);
    }

    /** "Tested in this order: ..": at a state that is not kept, a wrong group is BAD, not GONE. */
    private static void badComesBeforeGone() {
        Edges.badBeforeGone("members", 18, RelationTuples::members);
    }

    private static void questionsChangeNothing() {
        Edges.leavesAll("members(12, 13)", x -> x.members(12, 13), 1 << 2);
        Edges.leavesAll("members(5, 0)", x -> x.members(5, 0), 1);
        Edges.leavesAll("members(4, 0)", x -> x.members(4, 0), RelationTuples.GONE);
        Edges.leavesAll("members(13, 0)", x -> x.members(13, 0), RelationTuples.BAD);
    }
}
