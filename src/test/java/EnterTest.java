/** Promise 2: enter. */
public final class EnterTest {
    public static void main(String[] args) {
        everyCouple();
        entersAndStrikesOut();
        anEntryIsThereOnce();
        strikingOutWhatIsNotThere();
        personOutside();
        groupOutside();
        bothOutside();
        numberOfTheNewState();
        Due.end();
    }

    /** "Enters a person in a group (true), or strikes the entry out.": persons 0 to 5 and groups 0 to 17. */
    private static void everyCouple() {
        for (int person = 0; person < 6; person++) {
            for (int group = 0; group < 18; group++) {
                String couple = person + ", " + group;
                RelationTuples x = new RelationTuples();
                Due.answer("enter(" + couple + ", true)", x.enter(person, group, true), 1);
                for (int other = 0; other < 18; other++) {
                    int want = other == group ? 1 << person : 0;
                    Due.answer("enter(" + couple + "): members(1, " + other + ")", x.members(1, other), want);
                }
                Due.answer("enter(" + couple + ", false)", x.enter(person, group, false), 2);
                Due.answer("struck out " + couple + ": members(2)", x.members(2, group), 0);
                Due.answer("struck out " + couple + ": members(1)", x.members(1, group), 1 << person);
            }
        }
    }

    private static void entersAndStrikesOut() {
        RelationTuples x = new RelationTuples();
        Due.answer("enter(0, 4, true)", x.enter(0, 4, true), 1);
        Due.answer("enter(3, 4, true)", x.enter(3, 4, true), 2);
        Due.answer("enter(5, 4, true)", x.enter(5, 4, true), 3);
        Due.answer("members(3, 4)", x.members(3, 4), 0b101001);
        Due.answer("enter(3, 4, false)", x.enter(3, 4, false), 4);
        Due.answer("members(4, 4)", x.members(4, 4), 0b100001);
        Due.answer("members(3, 4) later", x.members(3, 4), 0b101001);
        Due.answer("members(2, 4) later", x.members(2, 4), 0b001001);
        Due.answer("members(0, 4) later", x.members(0, 4), 0);
    }

    /** "Enters a person in a group (true), or strikes the entry out.": entered twice, struck out once. */
    private static void anEntryIsThereOnce() {
        RelationTuples x = new RelationTuples();
        Due.answer("entering", x.enter(1, 1, true), 1);
        Due.answer("entering again", x.enter(1, 1, true), 2);
        Due.answer("members(2, 1)", x.members(2, 1), 1 << 1);
        Due.answer("one striking out suffices", x.enter(1, 1, false), 3);
        Due.answer("members(3, 1)", x.members(3, 1), 0);
    }

    /** "Enters a person in a group (true), or strikes the entry out.": there is none to strike out. */
    private static void strikingOutWhatIsNotThere() {
        RelationTuples x = new RelationTuples();
        Due.answer("striking out no entry", x.enter(1, 1, false), 1);
        Due.answer("members(1, 1)", x.members(1, 1), 0);
        x.enter(2, 1, true);
        Due.answer("striking out no entry beside one", x.enter(1, 1, false), 3);
        Due.answer("members(3, 1)", x.members(3, 1), 1 << 2);
        x.nest(1, 4, true);
        Due.answer("striking out one who belongs without an entry", x.enter(2, 4, false), 5);
        Due.answer("members(5, 4)", x.members(5, 4), 1 << 2);
    }

    /** "person outside 0..5 or group outside 0..17: BAD.": the person by itself. */
    private static void personOutside() {
        for (int person : Edges.outside(6)) {
            for (int group = 0; group <= 17; group += 17) {
                refused(person, group);
            }
        }
    }

    /** "person outside 0..5 or group outside 0..17: BAD.": the group by itself. */
    private static void groupOutside() {
        for (int group : Edges.outside(18)) {
            for (int person = 0; person <= 5; person += 5) {
                refused(person, group);
            }
        }
    }

    /** "person outside 0..5 or group outside 0..17: BAD.": both at once. */
    private static void bothOutside() {
        refused(-1, -1);
        refused(-1, 18);
        refused(6, -1);
        refused(6, 18);
    }

    private static void refused(int person, int group) {
        String couple = person + ", " + group;
        Edges.refused("enter(" + couple + ", true)", x -> x.enter(person, group, true));
        Edges.refused("enter(" + couple + ", false)", x -> x.enter(person, group, false));
    }

    /** "Else answers the number of the new state.": refused calls between count for nothing. */
    private static void numberOfTheNewState() {
        RelationTuples x = new RelationTuples();
        for (int number = 1; number <= 40; number++) {
            Due.answer("enter as change " + number, x.enter(number % 6, number % 18, number % 5 != 0), number);
            Due.answer("latest() after change " + number, x.latest(), number);
            Due.bad("enter(6, 0, true) after change " + number, x.enter(6, 0, true));
            Due.bad("enter(0, -1, false) after change " + number, x.enter(0, -1, false));
        }
    }
}
