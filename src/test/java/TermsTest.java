/** The section Terms: the words that all promises rest on, at their boundaries. */
public final class TermsTest {
    private static final int ALL_GROUPS = (1 << 18) - 1;
    private static final int ALL_PERSONS = (1 << 6) - 1;

    public static void main(String[] args) {
        firstAndLastNumbers();
        groupNumbers();
        rulesOfDifferentRelations();
        rulesForEveryThing();
        fewestPersons();
        everythingEntered();
        longestWays();
        stateZero();
        statesAreNumberedFromZero();
        everyChangeMakesTheNextState();
        idleChangesKeepTheStateAndPushOutAnOldOne();
        latestEightAreKept();
        keptStatesStayAsTheyWere();
        Due.end();
    }

    /** "There are 6 PERSONS, 0 to 5, and 6 THINGS, 0 to 5, and 3 RELATIONS, 0 to 2." */
    private static void firstAndLastNumbers() {
        RelationTuples x = new RelationTuples();
        Due.answer("the first person and group", x.enter(0, 0, true), 1);
        Due.answer("the last person and group", x.enter(5, 17, true), 2);
        Due.answer("the last relation to the first", x.rule(2, 0, true), 3);
        Due.answer("the first person's groups", x.groups(3, 0), 1);
        Due.answer("the last person's groups", x.groups(3, 5), (1 << 15) | (1 << 17));
        Due.bad("a person too small", x.enter(-1, 0, true));
        Due.bad("a person too large", x.enter(6, 0, true));
        Due.bad("a group of a thing too small", x.enter(0, 3 * -1 + 2, true));
        Due.bad("a group of a thing too large", x.enter(0, 3 * 6, true));
        Due.bad("a relation too small", x.rule(-1, 0, true));
        Due.bad("a relation too large", x.rule(3, 0, true));
    }

    /** "it has the number 3 * thing + relation (0 to 17).": groups beside each other may be of different things. */
    private static void groupNumbers() {
        RelationTuples x = new RelationTuples();
        for (int r = 0; r < 3; r++) {
            x.rule(r, (r + 1) % 3, true);
            x.rule(r, (r + 2) % 3, true);
        }
        for (int group = 0; group < 18; group++) {
            int groupsOfItsThing = 0b111 << (3 * (group / 3));
            Due.answer("with all rules: sources(6, " + group + ")", x.sources(6, group), groupsOfItsThing);
        }
    }

    /** "a rule from relation r to relation s (0 to 2, different)": all couples of different ones, no other. */
    private static void rulesOfDifferentRelations() {
        for (int r = -1; r <= 3; r++) {
            for (int s = -1; s <= 3; s++) {
                RelationTuples x = new RelationTuples();
                boolean sound = r >= 0 && r <= 2 && s >= 0 && s <= 2 && r != s;
                String call = "rule(" + r + ", " + s + ", true)";
                Due.answer(call, x.rule(r, s, true), sound ? 1 : RelationTuples.BAD);
                Due.answer(call + ": latest()", x.latest(), sound ? 1 : 0);
            }
        }
    }

    /** "means, for every thing, that whoever belongs to the group of the thing and r ..": the first and last too. */
    private static void rulesForEveryThing() {
        RelationTuples x = new RelationTuples();
        x.rule(1, 2, true);
        for (int thing = 0; thing < 6; thing++) {
            int first = 3 * thing;
            Due.answer("thing " + thing + ": relation 0", x.sources(1, first), 1 << first);
            Due.answer("thing " + thing + ": relation 1", x.sources(1, first + 1), 1 << (first + 1));
            Due.answer("thing " + thing + ": relation 2", x.sources(1, first + 2), 0b110 << first);
        }
    }

    /** "The persons that BELONG to the groups are the fewest for which that is so": no one for a ring alone. */
    private static void fewestPersons() {
        RelationTuples x = new RelationTuples();
        x.nest(0, 0, true);
        x.nest(0, 5, true);
        x.nest(5, 0, true);
        x.rule(0, 2, true);
        x.rule(2, 0, true);
        for (int person = 0; person < 6; person++) {
            Due.answer("rings alone: groups(5, " + person + ")", x.groups(5, person), 0);
        }
        x.enter(3, 3, true);
        Due.answer("one entered: groups(6, 3)", x.groups(6, 3), 0b101101);
        Due.answer("another not: groups(6, 2)", x.groups(6, 2), 0);
        x.enter(3, 3, false);
        Due.answer("struck out again: groups(7, 3)", x.groups(7, 3), 0);
    }

    /** "everybody entered in a group belongs to it, ..": every group in every group, all rules, everybody. */
    private static void everythingEntered() {
        RelationTuples x = new RelationTuples();
        for (int inner = 0; inner < 18; inner++) {
            for (int outer = 0; outer < 18; outer++) {
                x.nest(inner, outer, true);
            }
        }
        for (int r = 0; r < 3; r++) {
            x.rule(r, (r + 1) % 3, true);
            x.rule(r, (r + 2) % 3, true);
        }
        for (int person = 0; person < 6; person++) {
            x.enter(person, 3 * person, true);
        }
        int latest = x.latest();
        Due.answer("latest() when all is entered", latest, 18 * 18 + 6 + 6);
        for (int group = 0; group < 18; group++) {
            Due.answer("all is entered: members of " + group, x.members(latest, group), ALL_PERSONS);
            Due.answer("all is entered: sources of " + group, x.sources(latest, group), ALL_GROUPS);
        }
        for (int person = 0; person < 6; person++) {
            Due.answer("all is entered: groups of " + person, x.groups(latest, person), ALL_GROUPS);
        }
        Due.answer("all but the last person", x.changed(latest - 1, latest), 18);
        Due.answer("all but the last six persons", x.changed(latest - 6, latest), 108);
    }

    /** ".. entered in another one belongs to that, and the rules hold.": over 17 steps, the most there are. */
    private static void longestWays() {
        RelationTuples rising = new RelationTuples();
        RelationTuples falling = new RelationTuples();
        rising.rule(0, 1, true);
        rising.rule(1, 2, true);
        falling.rule(2, 1, true);
        falling.rule(1, 0, true);
        for (int thing = 0; thing < 5; thing++) {
            rising.nest(3 * thing + 2, 3 * thing + 3, true);
            falling.nest(3 * thing + 3, 3 * thing + 2, true);
        }
        rising.enter(1, 0, true);
        falling.enter(1, 17, true);
        Due.answer("a rising way", rising.groups(8, 1), ALL_GROUPS);
        Due.answer("a rising way: the last group", rising.check(8, 1, 17), 1);
        Due.answer("a rising way: since", rising.since(1, 17, 0), 8);
        Due.answer("a falling way", falling.groups(8, 1), ALL_GROUPS);
        Due.answer("a falling way: the last group", falling.check(8, 1, 0), 1);
        Due.answer("a falling way: since", falling.since(1, 0, 0), 8);
    }

    /** "state 0 has nothing entered and no rules." */
    private static void stateZero() {
        RelationTuples x = new RelationTuples();
        for (int group = 0; group < 18; group++) {
            Due.answer("nobody entered: members(0, " + group + ")", x.members(0, group), 0);
            Due.answer("no group entered, no rule: sources(0, " + group + ")", x.sources(0, group), 1 << group);
        }
        x.enter(0, 0, true);
        x.nest(0, 5, true);
        x.rule(0, 1, true);
        for (int group = 0; group < 18; group++) {
            Due.answer("members(0, " + group + ") later", x.members(0, group), 0);
            Due.answer("sources(0, " + group + ") later", x.sources(0, group), 1 << group);
        }
    }

    /** "States are numbered from 0" */
    private static void statesAreNumberedFromZero() {
        RelationTuples x = new RelationTuples();
        Due.answer("the first state", x.latest(), 0);
        Due.answer("the second state", x.enter(0, 0, true), 1);
        Due.answer("the third state", x.nest(0, 1, true), 2);
        Due.answer("the fourth state", x.rule(0, 1, true), 3);
        Due.bad("no state before the first", x.members(-1, 0));
    }

    /** "Every change makes the next state, also if it changes nothing." */
    private static void everyChangeMakesTheNextState() {
        RelationTuples x = new RelationTuples();
        Due.answer("an enter that strikes out nothing", x.enter(0, 0, false), 1);
        Due.answer("a nest that strikes out nothing", x.nest(0, 1, false), 2);
        Due.answer("a rule that did not hold", x.rule(0, 1, false), 3);
        Due.answer("enter", x.enter(0, 0, true), 4);
        Due.answer("enter again", x.enter(0, 0, true), 5);
        Due.answer("nest", x.nest(0, 1, true), 6);
        Due.answer("nest again", x.nest(0, 1, true), 7);
        Due.answer("rule", x.rule(0, 1, true), 8);
        Due.answer("rule again", x.rule(0, 1, true), 9);
        Due.answer("latest()", x.latest(), 9);
    }

    /** ".. also if it changes nothing.": such a state is as the one before it, and counts among the kept ones. */
    private static void idleChangesKeepTheStateAndPushOutAnOldOne() {
        RelationTuples x = new RelationTuples();
        x.enter(2, 6, true);
        x.nest(6, 17, true);
        x.rule(2, 1, true);
        for (int latest = 4; latest <= 30; latest++) {
            Due.answer("an idle change", x.enter(2, 6, true), latest);
            Due.answer("as before: groups at " + latest, x.groups(latest, 2), (1 << 6) | (1 << 16) | (1 << 17));
            Due.answer("as before: changed at " + latest, x.changed(latest - 1, latest), 0);
            Due.answer("the oldest at " + latest, x.members(latest - 7 < 0 ? 0 : latest - 7, 5), 0);
            if (latest >= 8) {
                Due.gone("the one before the oldest at " + latest, x.members(latest - 8, 5));
            }
        }
    }

    /** "The latest 8 states are kept.": all while there are no more, then 8 and no ninth, at every number. */
    private static void latestEightAreKept() {
        for (int latest = 0; latest <= 490; latest++) {
            RelationTuples x = Edges.after(latest, (y, number) -> y.enter(number % 6, 4, Edges.goesIn(number, 6)));
            for (int state = Math.max(0, latest - 10); state <= latest + 1; state++) {
                int want = Edges.dueAt(state, latest, kept -> Edges.setAfter(kept, 6));
                Due.answer("members(" + state + ", 4) at latest state " + latest, x.members(state, 4), want);
            }
            int first = latest < 8 ? 0 : RelationTuples.GONE;
            Due.answer("members(0, 4) at latest state " + latest, x.members(0, 4), first);
        }
    }

    /** "The latest 8 states are kept.": as they were; a later change, of whatever kind, does not reach into them. */
    private static void keptStatesStayAsTheyWere() {
        Edges.Call[] changes = {
            y -> y.enter(3, 1, true), y -> y.nest(5, 17, true), y -> y.rule(0, 2, true), y -> y.enter(3, 9, false),
            y -> y.nest(9, 17, false), y -> y.rule(0, 1, false), y -> y.enter(3, 16, true)};
        RelationTuples x = Edges.usedObject();
        int[] groups = new int[Edges.LATEST + 1];
        int[] sources = new int[Edges.LATEST + 1];
        for (int state = Edges.OLDEST; state <= Edges.LATEST; state++) {
            groups[state] = x.groups(state, 3);
            sources[state] = x.sources(state, 17);
        }
        Due.answer("groups(12, 3)", groups[12], 0b11 | (1 << 9) | (1 << 10) | (1 << 17));
        Due.answer("sources(12, 17)", sources[12], (1 << 9) | (1 << 17));
        for (int i = 0; i < changes.length; i++) {
            int latest = changes[i].on(x);
            Due.answer("change " + i, latest, Edges.LATEST + 1 + i);
            for (int state = latest - 7; state <= Edges.LATEST; state++) {
                Due.answer("groups(" + state + ", 3) at " + latest, x.groups(state, 3), groups[state]);
                Due.answer("sources(" + state + ", 17) at " + latest, x.sources(state, 17), sources[state]);
            }
        }
    }
}
