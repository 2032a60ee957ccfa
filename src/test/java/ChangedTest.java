/** Promise 10: changed. */
public final class ChangedTest {
    public static void main(String[] args) {
        answers();
        noCouple();
        everyCoupleAtOnce();
        everyPairOfStates();
        noSuchState();
        notKept();
        badComesBeforeGone();
        questionsChangeNothing();
        Due.end();
    }

    private static void both(RelationTuples x, int first, int second, int want) {
        Due.answer("changed(" + first + ", " + second + ")", x.changed(first, second), want);
        Due.answer("changed(" + second + ", " + first + ")", x.changed(second, first), want);
    }

    private static void answers() {
        RelationTuples x = new RelationTuples();
        x.enter(0, 0, true);
        x.enter(1, 0, true);
        x.nest(0, 10, true);
        x.enter(0, 0, false);
        x.enter(5, 17, true);
        both(x, 0, 1, 1);
        both(x, 0, 2, 2);
        both(x, 2, 3, 2);
        both(x, 0, 3, 4);
        both(x, 3, 4, 2);
        both(x, 1, 4, 3);
        both(x, 3, 5, 3);
    }

    /** "The number of couples ..": none, in a state and itself, and in two states in which the same persons belong. */
    private static void noCouple() {
        RelationTuples x = new RelationTuples();
        both(x, 0, 0, 0);
        x.enter(1, 0, true);
        x.nest(0, 10, true);
        both(x, 1, 1, 0);
        both(x, 2, 2, 0);
        x.enter(1, 10, true);
        both(x, 2, 3, 0);
        x.nest(0, 10, false);
        both(x, 3, 4, 0);
        x.enter(1, 0, true);
        both(x, 4, 5, 0);
        x.rule(2, 0, true);
        both(x, 5, 6, 0);
    }

    /** "The number of couples ..": all 108, and many in one step. */
    private static void everyCoupleAtOnce() {
        RelationTuples x = new RelationTuples();
        for (int outer = 3; outer < 18; outer += 3) {
            x.nest(0, outer, true);
        }
        x.rule(0, 1, true);
        x.rule(0, 2, true);
        for (int person = 0; person < 6; person++) {
            x.enter(person, 0, true);
            both(x, 7 + person, 8 + person, 18);
        }
        both(x, 7, 13, 108);
        x.rule(0, 1, false);
        both(x, 13, 14, 36);
        x.nest(0, 3, false);
        both(x, 14, 15, 12);
        both(x, 13, 15, 48);
        // Person 0 has left 8 of 18 groups, the other five have come to 10.
        both(x, 8, 15, 8 + 5 * 10);
    }

    /** "Tested in this order: there is no such state: BAD; one of them is not kept: GONE.": every pair of numbers. */
    private static void everyPairOfStates() {
        for (int latest = 0; latest <= 20; latest++) {
            for (int first = -9; first <= latest + 9; first++) {
                // A new object for each first number, since an object is used for 512 calls only.
                RelationTuples x = Edges.after(latest, (y, number) -> y.enter(number % 6, 2, Edges.goesIn(number, 6)));
                for (int second = -9; second <= latest + 9; second++) {
                    String call = "changed(" + first + ", " + second + ") at latest state " + latest;
                    Due.answer(call, x.changed(first, second), due(first, second, latest));
                }
            }
        }
    }

    private static int due(int first, int second, int latest) {
        if (first < 0 || first > latest || second < 0 || second > latest) {
            return RelationTuples.BAD;
        }
        if (first <= latest - 8 || second <= latest - 8) {
            return RelationTuples.GONE;
        }
        return Integer.bitCount(Edges.setAfter(first, 6) ^ Edges.setAfter(second, 6));
    }

    /** "there is no such state: BAD": each by itself and both, below 0 and after the latest. */
    private static void noSuchState() {
        for (int state : Edges.outside(Edges.LATEST + 1)) {
            RelationTuples x = Edges.usedObject();
            both(x, state, Edges.LATEST, RelationTuples.BAD);
            both(x, state, Edges.OLDEST, RelationTuples.BAD);
            both(x, state, state, RelationTuples.BAD);
        }
        RelationTuples fresh = new RelationTuples();
        both(fresh, 0, 1, RelationTuples.BAD);
        both(fresh, 0, -1, RelationTuples.BAD);
    }

    /** "one of them is not kept: GONE": each by itself, both, and the same one twice. */
    private static void notKept() {
        RelationTuples x = Edges.usedObject();
        for (int state = 0; state <= Edges.NOT_KEPT; state++) {
            both(x, state, Edges.LATEST, RelationTuples.GONE);
            both(x, state, Edges.OLDEST, RelationTuples.GONE);
            both(x, state, Edges.NOT_KEPT, RelationTuples.GONE);
            both(x, state, state, RelationTuples.GONE);
        }
        both(x, Edges.OLDEST, Edges.OLDEST, 0);
    }

    /** "Tested in this order: ..": one is no state and the other is not kept: BAD. */
    private static void badComesBeforeGone() {
        for (int state : Edges.outside(Edges.LATEST + 1)) {
            RelationTuples x = Edges.usedObject();
            both(x, state, Edges.NOT_KEPT, RelationTuples.BAD);
            both(x, state, 0, RelationTuples.BAD);
        }
    }

    private static void questionsChangeNothing() {
        Edges.leavesAll("changed(11, 12)", x -> x.changed(11, 12), 1);
        Edges.leavesAll("changed(12, 12)", x -> x.changed(12, 12), 0);
        Edges.leavesAll("changed(4, 12)", x -> x.changed(4, 12), RelationTuples.GONE);
        Edges.leavesAll("changed(13, 4)", x -> x.changed(13, 4), RelationTuples.BAD);
    }
}
