/** Promise 9: sources. */
public final class SourcesTest {
    private static final int ALL_GROUPS = (1 << 18) - 1;

    public static void main(String[] args) {
        answers();
        longestWay();
        itself();
        itselfOnARing();
        however();
        asPersonsShow();
        allGroups();
        everyState();
        groupOutside();
        badComesBeforeGone();
        questionsChangeNothing();
        Due.end();
    }

    private static void answers() {
        RelationTuples x = new RelationTuples();
        x.nest(0, 7, true);
        x.nest(7, 17, true);
        Due.answer("sources(2, 17)", x.sources(2, 17), 1 | (1 << 7) | (1 << 17));
        Due.answer("sources(2, 7)", x.sources(2, 7), 1 | (1 << 7));
        Due.answer("sources(2, 0)", x.sources(2, 0), 1);
        x.rule(2, 1, true);
        Due.answer("sources(3, 17)", x.sources(3, 17), 1 | (1 << 7) | (1 << 8) | (1 << 17));
        Due.answer("sources(3, 16)", x.sources(3, 16), 1 | (1 << 7) | (1 << 8) | (1 << 16) | (1 << 17));
        x.nest(0, 7, false);
        Due.answer("sources(4, 17)", x.sources(4, 17), (1 << 7) | (1 << 8) | (1 << 17));
        Due.answer("sources(3, 17) later", x.sources(3, 17), 1 | (1 << 7) | (1 << 8) | (1 << 17));
    }

    /** ".. from which one comes to it by entries of groups in groups and by rules": by the most steps there are. */
    private static void longestWay() {
        int[] order = {9, 3, 14, 0, 17, 6, 11, 2, 8, 13, 5, 16, 1, 10, 4, 15, 7, 12};
        RelationTuples x = new RelationTuples();
        for (int i = 0; i + 1 < order.length; i++) {
            x.nest(order[i], order[i + 1], true);
        }
        int want = 0;
        for (int group : order) {
            want |= 1 << group;
            Due.answer("sources of " + group + " on a long way", x.sources(17, group), want);
        }
    }

    /** ".. and itself.": also if nothing leads to it, and if it is entered in itself and struck out again. */
    private static void itself() {
        for (int group = 0; group < 18; group++) {
            RelationTuples x = new RelationTuples();
            Due.answer("sources(0, " + group + ")", x.sources(0, group), 1 << group);
            x.nest(group, group, true);
            Due.answer("entered in itself: sources(1, " + group + ")", x.sources(1, group), 1 << group);
            x.nest(group, group, false);
            Due.answer("struck out of itself: sources(2, " + group + ")", x.sources(2, group), 1 << group);
        }
    }

    /** ".. and itself.": a way that comes back to it adds nothing more. */
    private static void itselfOnARing() {
        RelationTuples x = new RelationTuples();
        x.nest(4, 10, true);
        x.nest(10, 4, true);
        Due.answer("sources(2, 4) on a ring", x.sources(2, 4), (1 << 4) | (1 << 10));
        Due.answer("sources(2, 10) on a ring", x.sources(2, 10), (1 << 4) | (1 << 10));
        x.rule(0, 1, true);
        x.rule(1, 0, true);
        Due.answer("sources(4, 15) on a ring of rules", x.sources(4, 15), (1 << 15) | (1 << 16));
        Due.answer("sources(4, 17) beside the ring", x.sources(4, 17), 1 << 17);
    }

    /** ".. however the persons were entered": nobody or somebody entered makes no difference. */
    private static void however() {
        RelationTuples x = new RelationTuples();
        x.nest(0, 7, true);
        Due.answer("nobody entered: sources(1, 7)", x.sources(1, 7), 1 | (1 << 7));
        x.enter(0, 3, true);
        x.enter(0, 7, true);
        Due.answer("the same person entered in both: sources(3, 7)", x.sources(3, 7), 1 | (1 << 7));
        for (int person = 0; person < 6; person++) {
            x.enter(person, 7, true);
        }
        Due.answer("everybody entered: sources(9, 7)", x.sources(9, 7), 1 | (1 << 7));
        x.nest(0, 7, false);
        Due.answer("everybody entered, no way: sources(10, 7)", x.sources(10, 7), 1 << 7);
    }

    /**
     * "The groups whose members all belong to a group in a state however the persons were entered": a person
     * entered in one group alone belongs to those groups, and to no others, that have this one among their sources.
     */
    private static void asPersonsShow() {
        for (int source = 0; source < 18; source++) {
            RelationTuples x = new RelationTuples();
            x.nest(2, 3, true);
            x.nest(4, 9, true);
            x.nest(11, 0, true);
            x.nest(17, 16, true);
            x.rule(0, 1, true);
            x.rule(1, 2, true);
            x.enter(1, source, true);
            for (int group = 0; group < 18; group++) {
                int leads = (x.sources(7, group) >> source) & 1;
                Due.answer("entered in " + source + ": check(7, 1, " + group + ")", x.check(7, 1, group), leads);
            }
        }
    }

    /** ".. as a set": the full set, by entries alone and by entries and rules. */
    private static void allGroups() {
        RelationTuples entries = new RelationTuples();
        for (int inner = 0; inner < 18; inner++) {
            entries.nest(inner, 0, true);
        }
        Due.answer("all by entries: sources(18, 0)", entries.sources(18, 0), ALL_GROUPS);
        Due.answer("not the other way: sources(18, 17)", entries.sources(18, 17), 1 << 17);
        RelationTuples rules = new RelationTuples();
        rules.rule(0, 2, true);
        rules.rule(1, 2, true);
        for (int thing = 0; thing < 5; thing++) {
            rules.nest(3 * thing + 2, 17, true);
        }
        Due.answer("all by entries and rules: sources(7, 17)", rules.sources(7, 17), ALL_GROUPS);
    }

    /** ".. there is no such state: BAD; the state is not kept: GONE.": below 0, the oldest, the latest, beside them. */
    private static void everyState() {
        Edges.everyState("sources", (x, number) -> x.nest(number % 18, 0, Edges.goesIn(number, 18)),
                (x, state) -> x.sources(state, 0), state -> Edges.setAfter(state, 18) | 1);
    }

    /** "Tested in this order: group outside 0..17 ..: BAD" */
    private static void groupOutside() {
        Edges.numberOutside("sources", 18, RelationTuples::sources);
    }

    /** "Tested in this order: ..": at a state that is not kept, a wrong group is BAD, not GONE. */
    private static void badComesBeforeGone() {
        Edges.badBeforeGone("sources", 18, RelationTuples::sources);
    }

    private static void questionsChangeNothing() {
        Edges.leavesAll("sources(12, 13)", x -> x.sources(12, 13), (1 << 12) | (1 << 13));
        Edges.leavesAll("sources(5, 4)", x -> x.sources(5, 4), 1 | (1 << 4));
        Edges.leavesAll("sources(4, 0)", x -> x.sources(4, 0), RelationTuples.GONE);
        Edges.leavesAll("sources(13, 0)", x -> x.sources(13, 0), RelationTuples.BAD);
    }
}
