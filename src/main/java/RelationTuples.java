/** Who may do what: relations that refer to relations, with old states kept. */
public final class RelationTuples {
    public static final int BAD = -1;
    public static final int GONE = -2;

    private static final int NEVER = -3;
    private static final int SOUND = 0;

    private static final int PERSONS = 6;
    private static final int RELATIONS = 3;
    private static final int GROUPS = 18;

    // A power of two, so that masking a state's number gives a slot even for a negative number.
    private static final int KEPT = 8;
    private static final int GROUP_CELLS = KEPT * GROUPS;
    private static final int RELATION_CELLS = KEPT * RELATIONS;

    // The kept states lie in a ring of slots; each array has one run of cells for each slot.

    /** For a slot and a group: the set of the persons entered in it. */
    private final int[] enteredPersons = new int[GROUP_CELLS];

    /** For a slot and a group: the set of the groups entered in it. */
    private final int[] enteredGroups = new int[GROUP_CELLS];

    // Rules stay apart from entries: striking out the one must leave the other in force.
    /** For a slot and a relation: the set of the relations from which a rule leads to it. */
    private final int[] rulesInto = new int[RELATION_CELLS];

    private int newest = 0;

    public RelationTuples() {
    }

    public int enter(int person, int group, boolean in) {
        if (!isPerson(person) || !isGroup(group)) {
            return BAD;
        }
        startNextState();
        int cell = slotOf(newest) * GROUPS + group;
        enteredPersons[cell] = withBit(enteredPersons[cell], person, in);
        return newest;
    }

    public int nest(int inner, int outer, boolean in) {
        if (!isGroup(inner) || !isGroup(outer)) {
            return BAD;
        }
        startNextState();
        int cell = slotOf(newest) * GROUPS + outer;
        enteredGroups[cell] = withBit(enteredGroups[cell], inner, in);
        return newest;
    }

    public int rule(int r, int s, boolean holds) {
        if (!isRelation(r) || !isRelation(s) || r == s) {
            return BAD;
        }
        startNextState();
        int cell = slotOf(newest) * RELATIONS + s;
        rulesInto[cell] = withBit(rulesInto[cell], r, holds);
        return newest;
    }

    public int latest() {
        return newest;
    }

    public int check(int state, int person, int group) {
        if (!isPerson(person) || !isGroup(group)) {
            return BAD;
        }
        int fault = faultOf(state);
        if (fault != SOUND) {
            return fault;
        }
        int slot = slotOf(state);
        return (personsOf(slot, group) >> person) & 1;
    }

    public int members(int state, int group) {
        if (!isGroup(group)) {
            return BAD;
        }
        int fault = faultOf(state);
        if (fault != SOUND) {
            return fault;
        }
        int slot = slotOf(state);
        return personsOf(slot, group);
    }

    public int groups(int state, int person) {
        if (!isPerson(person)) {
            return BAD;
        }
        int fault = faultOf(state);
        if (fault != SOUND) {
            return fault;
        }
        int slot = slotOf(state);
        int set = 0;
        for (int group = 0; group < GROUPS; group++) {
            int belongs = (personsOf(slot, group) >> person) & 1;
            set |= belongs << group;
        }
        return set;
    }

    public int sources(int state, int group) {
        if (!isGroup(group)) {
            return BAD;
        }
        int fault = faultOf(state);
        if (fault != SOUND) {
            return fault;
        }
        int slot = slotOf(state);
        return groupsLeadingTo(slot, group);
    }

    public int changed(int first, int second) {
        int firstFault = faultOf(first);
        int secondFault = faultOf(second);
        if (firstFault == BAD || secondFault == BAD) {
            return BAD;
        }
        if (firstFault == GONE || secondFault == GONE) {
            return GONE;
        }
        int firstSlot = slotOf(first);
        int secondSlot = slotOf(second);
        int couples = 0;
        for (int group = 0; group < GROUPS; group++) {
            int differing = personsOf(firstSlot, group) ^ personsOf(secondSlot, group);
            couples += countPersons(differing);
        }
        return couples;
    }

    public int since(int person, int group, int from) {
        if (!isPerson(person) || !isGroup(group) || from < 0 || from > newest) {
            return BAD;
        }
        // Counted by age and not by number, so that the loop ends whatever the newest number is.
        for (int age = KEPT - 1; age >= 0; age--) {
            int state = newest - age;
            if (state >= from) {
                int slot = slotOf(state);
                int persons = personsOf(slot, group);
                if (((persons >> person) & 1) == 1) {
                    return state;
                }
            }
        }
        return NEVER;
    }

    private static boolean isPerson(int number) {
        return number >= 0 && number < PERSONS;
    }

    private static boolean isGroup(int number) {
        return number >= 0 && number < GROUPS;
    }

    private static boolean isRelation(int number) {
        return number >= 0 && number < RELATIONS;
    }

    private int faultOf(int state) {
        if (state < 0 || state > newest) {
            return BAD;
        }
        return state <= newest - KEPT ? GONE : SOUND;
    }

    private static int slotOf(int state) {
        return state & (KEPT - 1);
    }

    private static int withBit(int set, int bit, boolean in) {
        return in ? set | (1 << bit) : set & ~(1 << bit);
    }

    private static int countPersons(int set) {
        int count = 0;
        for (int person = 0; person < PERSONS; person++) {
            count += (set >> person) & 1;
        }
        return count;
    }

    /** The new state takes the slot of the oldest one and begins as a copy of the one before it. */
    private void startNextState() {
        int old = slotOf(newest);
        newest++;
        int fresh = slotOf(newest);
        for (int group = 0; group < GROUPS; group++) {
            enteredPersons[fresh * GROUPS + group] = enteredPersons[old * GROUPS + group];
            enteredGroups[fresh * GROUPS + group] = enteredGroups[old * GROUPS + group];
        }
        for (int relation = 0; relation < RELATIONS; relation++) {
            rulesInto[fresh * RELATIONS + relation] = rulesInto[old * RELATIONS + relation];
        }
    }

    /** Whoever belongs to a group was entered in one of the groups that lead to it. */
    private int personsOf(int slot, int group) {
        int leading = groupsLeadingTo(slot, group);
        int persons = 0;
        for (int source = 0; source < GROUPS; source++) {
            if (((leading >> source) & 1) == 1) {
                persons |= enteredPersons[slot * GROUPS + source];
            }
        }
        return persons;
    }

    private int groupsLeadingTo(int slot, int group) {
        int reached = 1 << group;
        // A shortest way has fewer steps than there are groups, and each round goes one step back at least.
        for (int round = 1; round < GROUPS; round++) {
            int before = reached;
            for (int outer = 0; outer < GROUPS; outer++) {
                if (((reached >> outer) & 1) == 1) {
                    reached |= groupsOneStepBefore(slot, outer);
                }
            }
            if (reached == before) {
                break;
            }
        }
        return reached;
    }

    private int groupsOneStepBefore(int slot, int group) {
        int relation = group % RELATIONS;
        int firstOfThing = group - relation;
        int byRules = rulesInto[slot * RELATIONS + relation] << firstOfThing;
        return enteredGroups[slot * GROUPS + group] | byRules;
    }
}
