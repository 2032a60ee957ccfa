/** Promise 5: latest. Each method is a case of its one sentence: "The number of the latest state." */
public final class LatestTest {
    public static void main(String[] args) {
        atFirst();
        afterEachKindOfChange();
        afterChangesThatChangeNothing();
        afterRefusedChanges();
        afterQuestions();
        whenOlderStatesAreNotKept();
        Due.end();
    }

    private static void atFirst() {
        RelationTuples x = new RelationTuples();
        Due.answer("latest() at first", x.latest(), 0);
        Due.answer("latest() once more", x.latest(), 0);
    }

    private static void afterEachKindOfChange() {
        RelationTuples x = new RelationTuples();
        x.enter(0, 0, true);
        Due.answer("latest() after enter", x.latest(), 1);
        x.nest(0, 1, true);
        Due.answer("latest() after nest", x.latest(), 2);
        x.rule(0, 1, true);
        Due.answer("latest() after rule", x.latest(), 3);
        x.enter(0, 0, false);
        x.nest(0, 1, false);
        x.rule(0, 1, false);
        Due.answer("latest() after striking out", x.latest(), 6);
    }

    private static void afterChangesThatChangeNothing() {
        RelationTuples x = new RelationTuples();
        x.enter(0, 0, false);
        Due.answer("latest() after an idle enter", x.latest(), 1);
        x.nest(5, 5, false);
        Due.answer("latest() after an idle nest", x.latest(), 2);
        x.rule(2, 0, false);
        Due.answer("latest() after an idle rule", x.latest(), 3);
    }

    private static void afterRefusedChanges() {
        RelationTuples x = new RelationTuples();
        x.enter(6, 0, true);
        x.nest(0, 18, true);
        x.rule(1, 1, true);
        Due.answer("latest() after refused changes at first", x.latest(), 0);
        Due.pass(x, 9);
        x.enter(-1, 0, true);
        x.nest(-1, 0, true);
        x.rule(0, 3, true);
        Due.answer("latest() after refused changes at state 9", x.latest(), 9);
    }

    private static void afterQuestions() {
        RelationTuples x = Edges.usedObject();
        for (int state = -1; state <= Edges.LATEST + 1; state++) {
            x.check(state, 0, 0);
            x.members(state, 0);
            x.groups(state, 0);
            x.sources(state, 0);
            x.changed(state, Edges.LATEST);
            x.since(0, 0, state);
            Due.answer("latest() after questions about " + state, x.latest(), Edges.LATEST);
        }
    }

    private static void whenOlderStatesAreNotKept() {
        RelationTuples x = new RelationTuples();
        for (int number = 1; number <= 100; number++) {
            Due.pass(x, 1);
            Due.answer("latest() after change " + number, x.latest(), number);
        }
    }
}
