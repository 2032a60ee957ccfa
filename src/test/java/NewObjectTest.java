/** Promise 1: a new object. */
public final class NewObjectTest {
    public static void main(String[] args) {
        stateZeroIsThere();
        stateZeroOnly();
        questionsMakeNoState();
        objectsAreApart();
        Due.end();
    }

    /** "State 0 only.": there is a state 0, and it is the latest. */
    private static void stateZeroIsThere() {
        RelationTuples x = new RelationTuples();
        Due.answer("latest()", x.latest(), 0);
        Due.answer("check(0, 0, 0)", x.check(0, 0, 0), 0);
        Due.answer("members(0, 0)", x.members(0, 0), 0);
        Due.answer("groups(0, 0)", x.groups(0, 0), 0);
        Due.answer("sources(0, 0)", x.sources(0, 0), 1);
        Due.answer("changed(0, 0)", x.changed(0, 0), 0);
        Due.answer("since(0, 0, 0)", x.since(0, 0, 0), -3);
    }

    /** "State 0 only.": no number beside it is a state, and none has gone. */
    private static void stateZeroOnly() {
        RelationTuples x = new RelationTuples();
        for (int state : Edges.outside(1)) {
            Due.bad("check(" + state + ", 0, 0)", x.check(state, 0, 0));
            Due.bad("members(" + state + ", 0)", x.members(state, 0));
            Due.bad("groups(" + state + ", 0)", x.groups(state, 0));
            Due.bad("sources(" + state + ", 0)", x.sources(state, 0));
            Due.bad("changed(" + state + ", 0)", x.changed(state, 0));
            Due.bad("changed(0, " + state + ")", x.changed(0, state));
            Due.bad("since(0, 0, " + state + ")", x.since(0, 0, state));
        }
    }

    private static void questionsMakeNoState() {
        RelationTuples x = new RelationTuples();
        String before = Edges.everything(x);
        Due.holds("a new object stays as it is when it is asked", Edges.everything(x).equals(before));
        Due.answer("latest() after questions", x.latest(), 0);
    }

    private static void objectsAreApart() {
        RelationTuples one = new RelationTuples();
        RelationTuples other = new RelationTuples();
        one.enter(0, 0, true);
        Due.answer("latest() of the other object", other.latest(), 0);
        Due.answer("members(0, 0) of the other object", other.members(0, 0), 0);
        Due.answer("members(1, 0) of the one object", one.members(1, 0), 1);
        RelationTuples third = new RelationTuples();
        Due.answer("latest() of an object made later", third.latest(), 0);
        Due.answer("members(0, 0) of an object made later", third.members(0, 0), 0);
    }
}
