/** Promise 2: enter. */
public final class EnterTest {
    public static void main(String[] args) {
        everyCouple();
        entersAndStrikesOut();
        changesThatChangeNothing();
        wrongNumbers();
        Due.end();
    }

    private static void everyCouple() {
        for (int person = 0; person < 6; person++) {
            for (int group = 0; group < 18; group++) {
                String couple = person + ", " + group;
                RelationTuples x = new RelationTuples();
                Due.answer("enter(" + couple + ", true)", x.enter(person, group, true), 1);
                for (int other = 0; other < 18; other++) {
                    int want = other == group ? 1 << person : 0;
                    Due.answer("enter(" + couple + "): members(1, " + other + ")", x.members(1, other), want);
                }
                Due.answer("enter(" + couple + ", false)", x.enter(person, group, false), 2);
                Due.answer("struck out " + couple + ": members(2)", x.members(2, group), 0);
                Due.answer("struck out " + couple + ": members(1)", x.members(1, group), 1 << person);
            }
        }
    }

    private static void entersAndStrikesOut() {
        RelationTuples x = new RelationTuples();
        Due.answer("enter(0, 4, true)", x.enter(0, 4, true), 1);
        Due.answer("enter(3, 4, true)", x.enter(3, 4, true), 2);
        Due.answer("enter(5, 4, true)", x.enter(5, 4, true), 3);
        Due.answer("members(3, 4)", x.members(3, 4), 0b101001);
        Due.answer("enter(3, 4, false)", x.enter(3, 4, false), 4);
        Due.answer("members(4, 4)", x.members(4, 4), 0b100001);
        Due.answer("members(3, 4) later", x.members(3, 4), 0b101001);
        Due.answer("members(2, 4) later", x.members(2, 4), 0b001001);
        Due.answer("members(0, 4) later", x.members(0, 4), 0);
    }

    private static void changesThatChangeNothing() {
        RelationTuples x = new RelationTuples();
        Due.answer("striking out no entry", x.enter(1, 1, false), 1);
        Due.answer("members(1, 1)", x.members(1, 1), 0);
        Due.answer("entering", x.enter(1, 1, true), 2);
        Due.answer("entering again", x.enter(1, 1, true), 3);
        Due.answer("one striking out suffices", x.enter(1, 1, false), 4);
        Due.answer("members(4, 1)", x.members(4, 1), 0);
    }

    private static void wrongNumbers() {
        RelationTuples x = new RelationTuples();
        int[] wrongPersons = {-1, 6, 31, 32, Integer.MIN_VALUE, Integer.MAX_VALUE};
        int[] wrongGroups = {-1, 18, 32, Integer.MIN_VALUE, Integer.MAX_VALUE};
        for (int person : wrongPersons) {
            Due.answer("enter(" + person + ", 0, true)", x.enter(person, 0, true), RelationTuples.BAD);
            Due.answer("enter(" + person + ", 0, false)", x.enter(person, 0, false), RelationTuples.BAD);
        }
        for (int group : wrongGroups) {
            Due.answer("enter(0, " + group + ", true)", x.enter(0, group, true), RelationTuples.BAD);
            Due.answer("enter(0, " + group + ", false)", x.enter(0, group, false), RelationTuples.BAD);
        }
        Due.answer("a BAD enter makes no state", x.latest(), 0);
        for (int group = 0; group < 18; group++) {
            Due.answer("a BAD enter enters nobody in " + group, x.members(0, group), 0);
        }
    }
}
