/** Promise 11: since. */
public final class SinceTest {
    private static final int NEVER = -3;

    public static void main(String[] args) {
        answers();
        smallestKeptState();
        notBeforeFrom();
        noneAtAll();
        noneNotBeforeFrom();
        noneThatIsKept();
        everyFrom();
        personOutside();
        groupOutside();
        fromOutside();
        fromNotKept();
        questionsChangeNothing();
        Due.end();
    }

    private static void answers() {
        RelationTuples x = new RelationTuples();
        x.enter(4, 9, true);
        x.enter(4, 9, false);
        x.nest(9, 17, true);
        x.enter(4, 9, true);
        Due.answer("since(4, 9, 0)", x.since(4, 9, 0), 1);
        Due.answer("since(4, 9, 1)", x.since(4, 9, 1), 1);
        Due.answer("since(4, 9, 2)", x.since(4, 9, 2), 4);
        Due.answer("since(4, 9, 4)", x.since(4, 9, 4), 4);
        Due.answer("since(4, 17, 0)", x.since(4, 17, 0), 4);
        x.rule(2, 0, true);
        Due.answer("since(4, 15, 0)", x.since(4, 15, 0), 5);
    }

    /** "The smallest kept state ..": where the person belonged before that, the oldest that is kept. */
    private static void smallestKeptState() {
        RelationTuples x = new RelationTuples();
        x.enter(0, 0, true);
        Due.pass(x, 7);
        Due.answer("since(0, 0, 0) at state 8", x.since(0, 0, 0), 1);
        for (int latest = 9; latest <= 30; latest++) {
            Due.pass(x, 1);
            Due.answer("since(0, 0, 0) at state " + latest, x.since(0, 0, 0), latest - 7);
            Due.answer("since(0, 0, oldest) at state " + latest, x.since(0, 0, latest - 7), latest - 7);
        }
    }

    /** ".. not before from, ..": from itself counts, the state before it does not. */
    private static void notBeforeFrom() {
        RelationTuples x = new RelationTuples();
        x.enter(0, 0, true);
        x.enter(0, 0, false);
        x.enter(0, 0, true);
        x.enter(0, 0, true);
        Due.answer("since(0, 0, 0)", x.since(0, 0, 0), 1);
        Due.answer("since(0, 0, 1)", x.since(0, 0, 1), 1);
        Due.answer("since(0, 0, 2)", x.since(0, 0, 2), 3);
        Due.answer("since(0, 0, 3)", x.since(0, 0, 3), 3);
        Due.answer("since(0, 0, 4), the latest", x.since(0, 0, 4), 4);
    }

    /** "-3 if there is none.": the person has never belonged. */
    private static void noneAtAll() {
        RelationTuples x = new RelationTuples();
        Due.answer("since(0, 0, 0) of a new object", x.since(0, 0, 0), NEVER);
        Due.answer("since(5, 17, 0) of a new object", x.since(5, 17, 0), NEVER);
        x.enter(1, 1, true);
        Due.answer("another person: since(0, 1, 0)", x.since(0, 1, 0), NEVER);
        Due.answer("another group: since(1, 0, 0)", x.since(1, 0, 0), NEVER);
        Due.pass(x, 20);
        Due.answer("since(0, 1, 0) later", x.since(0, 1, 0), NEVER);
    }

    /** "-3 if there is none.": the person has belonged before from alone. */
    private static void noneNotBeforeFrom() {
        RelationTuples x = new RelationTuples();
        x.enter(2, 3, true);
        x.enter(2, 3, false);
        Due.answer("since(2, 3, 1)", x.since(2, 3, 1), 1);
        Due.answer("since(2, 3, 2)", x.since(2, 3, 2), NEVER);
        Due.pass(x, 3);
        Due.answer("since(2, 3, 1) later", x.since(2, 3, 1), 1);
        Due.answer("since(2, 3, 2) later", x.since(2, 3, 2), NEVER);
        Due.answer("since(2, 3, 5), the latest", x.since(2, 3, 5), NEVER);
    }

    /** "-3 if there is none.": the person has belonged in states alone that are not kept. */
    private static void noneThatIsKept() {
        RelationTuples x = new RelationTuples();
        x.enter(0, 0, true);
        x.enter(0, 0, false);
        Due.pass(x, 6);
        Due.answer("since(0, 0, 0) at state 8", x.since(0, 0, 0), 1);
        Due.pass(x, 1);
        Due.answer("since(0, 0, 0) at state 9", x.since(0, 0, 0), NEVER);
        Due.answer("since(0, 0, 1) at state 9", x.since(0, 0, 1), NEVER);
    }

    /** "from outside 0 .. latest(): BAD", and all the cases inside, for persons who come and go. */
    private static void everyFrom() {
        for (int period = 1; period <= 11; period++) {
            int every = period;
            for (int latest = 0; latest <= 30; latest++) {
                RelationTuples x = Edges.after(latest, (y, number) -> y.enter(5, 17, number % every == 0));
                for (int from = -9; from <= latest + 9; from++) {
                    String call = "in every " + every + ". state: since(5, 17, " + from + ") at latest state " + latest;
                    Due.answer(call, x.since(5, 17, from), due(every, from, latest));
                }
            }
        }
    }

    private static int due(int every, int from, int latest) {
        if (from < 0 || from > latest) {
            return RelationTuples.BAD;
        }
        for (int state = from; state <= latest; state++) {
            // In state 0 nobody is entered.
            if (state > latest - 8 && state > 0 && state % every == 0) {
                return state;
            }
        }
        return NEVER;
    }

    /** "Tested before, in this order: person outside 0..5, ..: BAD." */
    private static void personOutside() {
        for (int person : Edges.outside(6)) {
            bad(person, 0, Edges.LATEST);
            bad(person, 17, Edges.OLDEST);
            bad(person, 0, Edges.NOT_KEPT);
            bad(person, 0, 0);
            bad(person, 0, Edges.LATEST + 1);
        }
    }

    /** ".. group outside 0..17, ..: BAD." */
    private static void groupOutside() {
        for (int group : Edges.outside(18)) {
            bad(0, group, Edges.LATEST);
            bad(5, group, Edges.OLDEST);
            bad(0, group, Edges.NOT_KEPT);
            bad(0, group, 0);
            bad(0, group, Edges.LATEST + 1);
        }
    }

    /** ".. or from outside 0 .. latest(): BAD." */
    private static void fromOutside() {
        for (int from : Edges.outside(Edges.LATEST + 1)) {
            bad(0, 0, from);
            bad(2, 13, from);
            bad(5, 17, from);
        }
        RelationTuples fresh = new RelationTuples();
        Due.bad("since(0, 0, 1) of a new object", fresh.since(0, 0, 1));
        Due.bad("since(0, 0, -1) of a new object", fresh.since(0, 0, -1));
    }

    /** "from outside 0 .. latest(): BAD": a from inside it that is not kept is neither BAD nor GONE. */
    private static void fromNotKept() {
        RelationTuples x = Edges.usedObject();
        for (int from = 0; from <= Edges.NOT_KEPT; from++) {
            Due.answer("since(5, 17, " + from + ")", x.since(5, 17, from), Edges.OLDEST);
            Due.answer("since(2, 13, " + from + ")", x.since(2, 13, from), Edges.LATEST);
            Due.answer("since(1, 0, " + from + ")", x.since(1, 0, from), NEVER);
        }
    }

    private static void questionsChangeNothing() {
        Edges.leavesAll("since(2, 13, 0)", x -> x.since(2, 13, 0), 12);
        Edges.leavesAll("since(1, 13, 12)", x -> x.since(1, 13, 12), NEVER);
        Edges.leavesAll("since(2, 13, 13)", x -> x.since(2, 13, 13), RelationTuples.BAD);
    }

    private static void bad(int person, int group, int from) {
        String call = "since(" + person + ", " + group + ", " + from + ") at latest state " + Edges.LATEST;
        Due.bad(call, Edges.usedObject().since(person, group, from));
    }
}
