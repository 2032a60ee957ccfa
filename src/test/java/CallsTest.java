/**
 * The first section: "An object is used for at most 512 calls after it has been made": the promises hold
 * through the 512th call.
 */
public final class CallsTest {
    private static final int CALLS = 512;

    public static void main(String[] args) {
        changesAsTheLastCall();
        questionsAsTheLastCall();
        statesAtTheLastCall();
        sourcesAtTheLastCall();
        sinceAtTheLastCall();
        changedAtTheLastCall();
        changeAfterQuestionsAlone();
        changeAfterRefusedCallsAlone();
        everyShareOfChangesAndQuestions();
        Due.end();
    }

    private static RelationTuples entered(int changes) {
        return Edges.after(changes, (x, number) -> x.enter(3, number % 18, Edges.goesIn(number, 18)));
    }

    private static RelationTuples nested(int changes) {
        return Edges.after(changes, (x, number) -> x.nest(number % 18, 0, Edges.goesIn(number, 18)));
    }

    private static void changesAsTheLastCall() {
        Due.answer("enter as call 512", entered(CALLS - 1).enter(5, 17, true), 512);
        Due.answer("nest as call 512", entered(CALLS - 1).nest(17, 0, true), 512);
        Due.answer("rule as call 512", entered(CALLS - 1).rule(0, 2, true), 512);
        Due.bad("a wrong enter as call 512", entered(CALLS - 1).enter(6, 17, true));
        Due.bad("a wrong nest as call 512", entered(CALLS - 1).nest(17, 18, true));
        Due.bad("a wrong rule as call 512", entered(CALLS - 1).rule(1, 1, true));
        Due.answer("enter as call 511", entered(CALLS - 2).enter(5, 17, true), 511);
    }

    private static void questionsAsTheLastCall() {
        Due.answer("latest as call 512", entered(CALLS - 1).latest(), 511);
        for (int group = 0; group < 18; group++) {
            int belongs = (Edges.setAfter(CALLS - 1, 18) >> group) & 1;
            Due.answer("check(511, 3, " + group + ") as call 512", entered(CALLS - 1).check(511, 3, group), belongs);
            Due.answer("members(511, " + group + ") as call 512", entered(CALLS - 1).members(511, group), belongs << 3);
        }
    }

    private static void statesAtTheLastCall() {
        for (int state = 495; state <= 520; state++) {
            int want = Edges.dueAt(state, 511, kept -> Edges.setAfter(kept, 18));
            Due.answer("groups(" + state + ", 3) as call 512", entered(CALLS - 1).groups(state, 3), want);
        }
        Due.gone("groups(0, 3) as call 512", entered(CALLS - 1).groups(0, 3));
        Due.bad("groups(-1, 3) as call 512", entered(CALLS - 1).groups(-1, 3));
    }

    private static void sourcesAtTheLastCall() {
        for (int state = 495; state <= 520; state++) {
            int want = Edges.dueAt(state, 511, kept -> Edges.setAfter(kept, 18) | 1);
            Due.answer("sources(" + state + ", 0) as call 512", nested(CALLS - 1).sources(state, 0), want);
        }
    }

    private static void sinceAtTheLastCall() {
        for (int group = 0; group < 18; group++) {
            int want = -3;
            for (int state = 511; state >= 504; state--) {
                want = ((Edges.setAfter(state, 18) >> group) & 1) == 1 ? state : want;
            }
            Due.answer("since(3, " + group + ", 0) as call 512", entered(CALLS - 1).since(3, group, 0), want);
        }
        Due.answer("since(4, 0, 511) as call 512", entered(CALLS - 1).since(4, 0, 511), -3);
        Due.bad("since(3, 0, 512) as call 512", entered(CALLS - 1).since(3, 0, 512));
    }

    private static void changedAtTheLastCall() {
        for (int state = 504; state <= 511; state++) {
            int want = Integer.bitCount(Edges.setAfter(state, 18) ^ Edges.setAfter(511, 18));
            Due.answer("changed(" + state + ", 511) as call 512", entered(CALLS - 1).changed(state, 511), want);
        }
        Due.gone("changed(503, 511) as call 512", entered(CALLS - 1).changed(503, 511));
        Due.bad("changed(503, 512) as call 512", entered(CALLS - 1).changed(503, 512));
    }

    private static void changeAfterQuestionsAlone() {
        RelationTuples x = new RelationTuples();
        for (int call = 1; call <= CALLS - 2; call++) {
            Due.answer("members(0, 0) as call " + call, x.members(0, 0), 0);
        }
        Due.answer("enter as call 511", x.enter(1, 0, true), 1);
        Due.answer("members as call 512", x.members(1, 0), 1 << 1);
    }

    private static void changeAfterRefusedCallsAlone() {
        RelationTuples x = new RelationTuples();
        for (int call = 1; call <= CALLS - 2; call++) {
            Due.bad("a wrong enter as call " + call, x.enter(6, 0, true));
        }
        Due.answer("nest as call 511", x.nest(1, 0, true), 1);
        Due.answer("sources as call 512", x.sources(1, 0), 0b11);
    }

    /** Any number of changes first, and questions about the states around the kept ones for all calls that are left. */
    private static void everyShareOfChangesAndQuestions() {
        for (int changes = 0; changes < CALLS; changes++) {
            RelationTuples x = entered(changes);
            int latest = changes;
            for (int left = CALLS - changes; left > 0; left--) {
                int state = latest + 1 - left % 11;
                int want = Edges.dueAt(state, latest, kept -> Edges.setAfter(kept, 18));
                Due.answer("groups(" + state + ", 3) after " + changes + " changes", x.groups(state, 3), want);
            }
        }
    }
}
