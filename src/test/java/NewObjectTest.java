/** Promise 1: a new object has state 0 only, with nothing entered and no rules. */
public final class NewObjectTest {
    public static void main(String[] args) {
        RelationTuples x = new RelationTuples();
        Due.answer("latest()", x.latest(), 0);
        for (int group = 0; group < 18; group++) {
            Due.answer("members(0, " + group + ")", x.members(0, group), 0);
            Due.answer("sources(0, " + group + ")", x.sources(0, group), 1 << group);
        }
        for (int person = 0; person < 6; person++) {
            Due.answer("groups(0, " + person + ")", x.groups(0, person), 0);
        }
        Due.answer("members(1, 0)", x.members(1, 0), RelationTuples.BAD);
        Due.answer("members(-1, 0)", x.members(-1, 0), RelationTuples.BAD);
        Due.answer("changed(0, 0)", x.changed(0, 0), 0);
        Due.answer("since(0, 0, 0)", x.since(0, 0, 0), -3);
        Due.answer("latest() after questions", x.latest(), 0);
        objectsAreApart();
        Due.end();
    }

    private static void objectsAreApart() {
        RelationTuples one = new RelationTuples();
        RelationTuples other = new RelationTuples();
        one.enter(0, 0, true);
        Due.answer("latest() of the other object", other.latest(), 0);
        Due.answer("members(0, 0) of the other object", other.members(0, 0), 0);
        Due.answer("members(1, 0) of the one object", one.members(1, 0), 1);
    }
}
