import java.util.ArrayList;
import java.util.List;

/**
 * Promises 1 to 11 on long mixed runs, against a model that keeps every state whole and finds who
 * belongs by adding persons until nothing is left to add, as the document's Terms say it.
 */
public final class ModelTest {
    private static final int RUNS = 300;
    private static final int CALLS = 512;

    private static final class State {
        final boolean[][] entered = new boolean[6][18];
        final boolean[][] nested = new boolean[18][18];
        final boolean[][] rules = new boolean[3][3];
        boolean[][] belongs;
        boolean[][] leads;

        State next() {
            State copy = new State();
            copyRows(entered, copy.entered);
            copyRows(nested, copy.nested);
            copyRows(rules, copy.rules);
            return copy;
        }

        private static void copyRows(boolean[][] from, boolean[][] to) {
            for (int i = 0; i < from.length; i++) {
                to[i] = from[i].clone();
            }
        }

        boolean[][] belongs() {
            if (belongs == null) {
                belongs = spread(entered);
            }
            return belongs;
        }

        /** leads()[g][h]: a phantom entered in g alone belongs to h. */
        boolean[][] leads() {
            if (leads == null) {
                boolean[][] phantoms = new boolean[18][18];
                for (int group = 0; group < 18; group++) {
                    phantoms[group][group] = true;
                }
                leads = spread(phantoms);
            }
            return leads;
        }

        private boolean[][] spread(boolean[][] start) {
            boolean[][] in = new boolean[start.length][];
            copyRows(start, in);
            boolean grown = true;
            while (grown) {
                grown = false;
                for (boolean[] row : in) {
                    for (int g = 0; g < 18; g++) {
                        for (int h = 0; h < 18; h++) {
                            boolean ruled = g / 3 == h / 3 && rules[g % 3][h % 3];
                            if (row[g] && !row[h] && (nested[g][h] || ruled)) {
                                row[h] = true;
                                grown = true;
                            }
                        }
                    }
                }
            }
            return in;
        }
    }

    private final List<State> states = new ArrayList<>();
    private final RelationTuples x = new RelationTuples();
    private final int run;
    private long seed;

    private ModelTest(int run) {
        this.run = run;
        this.seed = run * 7919L + 1;
        states.add(new State());
    }

    public static void main(String[] args) {
        for (int run = 0; run < RUNS; run++) {
            new ModelTest(run).play();
        }
        Due.end();
    }

    private int pick(int bound) {
        seed = seed * 6364136223846793005L + 1442695040888963407L;
        return (int) ((seed >>> 33) % bound);
    }

    /** Mostly a number in 0 .. bound - 1, now and then one beside it. */
    private int pickNear(int bound) {
        return pick(20) == 0 ? (pick(2) == 0 ? -1 - pick(3) : bound + pick(3)) : pick(bound);
    }

    private int pickState() {
        int latest = states.size() - 1;
        return pick(4) == 0 ? pickNear(latest + 1) : latest - pick(10) + pick(2);
    }

    private void play() {
        // Some runs hold few entries and some many, since few and many fail in different ways.
        int density = 1 + run % 5;
        for (int call = 0; call < CALLS; call++) {
            boolean in = pick(6) < density;
            switch (pick(14)) {
                case 0, 1 -> enter(pickNear(6), pickNear(18), in);
                case 2, 3, 4 -> nest(pickNear(18), pickNear(18), in);
                case 5 -> rule(pickNear(3), pickNear(3), in && pick(2) == 0);
                case 6 -> Due.answer(name("latest()"), x.latest(), states.size() - 1);
                case 7 -> check(pickState(), pickNear(6), pickNear(18));
                case 8 -> members(pickState(), pickNear(18));
                case 9 -> groups(pickState(), pickNear(6));
                case 10 -> sources(pickState(), pickNear(18));
                case 11, 12 -> changed(pickState(), pickState());
                default -> since(pickNear(6), pickNear(18), pickState());
            }
        }
    }

    private String name(String call) {
        return "run " + run + ", state " + (states.size() - 1) + ": " + call;
    }

    private static boolean within(int number, int bound) {
        return number >= 0 && number < bound;
    }

    private boolean exists(int state) {
        return within(state, states.size());
    }

    private boolean isKept(int state) {
        return state >= states.size() - 8;
    }

    private State change() {
        State next = states.get(states.size() - 1).next();
        states.add(next);
        return next;
    }

    private void enter(int person, int group, boolean in) {
        int want = RelationTuples.BAD;
        if (within(person, 6) && within(group, 18)) {
            change().entered[person][group] = in;
            want = states.size() - 1;
        }
        String call = "enter(" + person + ", " + group + ", " + in + ")";
        Due.answer(name(call), x.enter(person, group, in), want);
    }

    private void nest(int inner, int outer, boolean in) {
        int want = RelationTuples.BAD;
        if (within(inner, 18) && within(outer, 18)) {
            change().nested[inner][outer] = in;
            want = states.size() - 1;
        }
        String call = "nest(" + inner + ", " + outer + ", " + in + ")";
        Due.answer(name(call), x.nest(inner, outer, in), want);
    }

    private void rule(int r, int s, boolean holds) {
        int want = RelationTuples.BAD;
        if (within(r, 3) && within(s, 3) && r != s) {
            change().rules[r][s] = holds;
            want = states.size() - 1;
        }
        String call = "rule(" + r + ", " + s + ", " + holds + ")";
        Due.answer(name(call), x.rule(r, s, holds), want);
    }

    private void check(int state, int person, int group) {
        int want;
        if (!within(person, 6) || !within(group, 18) || !exists(state)) {
            want = RelationTuples.BAD;
        } else if (!isKept(state)) {
            want = RelationTuples.GONE;
        } else {
            want = states.get(state).belongs()[person][group] ? 1 : 0;
        }
        String call = "check(" + state + ", " + person + ", " + group + ")";
        Due.answer(name(call), x.check(state, person, group), want);
    }

    private void members(int state, int group) {
        int want = 0;
        if (!within(group, 18) || !exists(state)) {
            want = RelationTuples.BAD;
        } else if (!isKept(state)) {
            want = RelationTuples.GONE;
        } else {
            for (int person = 0; person < 6; person++) {
                want += states.get(state).belongs()[person][group] ? 1 << person : 0;
            }
        }
        Due.answer(name("members(" + state + ", " + group + ")"), x.members(state, group), want);
    }

    private void groups(int state, int person) {
        int want = 0;
        if (!within(person, 6) || !exists(state)) {
            want = RelationTuples.BAD;
        } else if (!isKept(state)) {
            want = RelationTuples.GONE;
        } else {
            for (int group = 0; group < 18; group++) {
                want += states.get(state).belongs()[person][group] ? 1 << group : 0;
            }
        }
        Due.answer(name("groups(" + state + ", " + person + ")"), x.groups(state, person), want);
    }

    private void sources(int state, int group) {
        int want = 0;
        if (!within(group, 18) || !exists(state)) {
            want = RelationTuples.BAD;
        } else if (!isKept(state)) {
            want = RelationTuples.GONE;
        } else {
            for (int source = 0; source < 18; source++) {
                want += states.get(state).leads()[source][group] ? 1 << source : 0;
            }
        }
        Due.answer(name("sources(" + state + ", " + group + ")"), x.sources(state, group), want);
    }

    private void changed(int first, int second) {
        int want = 0;
        if (!exists(first) || !exists(second)) {
            want = RelationTuples.BAD;
        } else if (!isKept(first) || !isKept(second)) {
            want = RelationTuples.GONE;
        } else {
            for (int person = 0; person < 6; person++) {
                for (int group = 0; group < 18; group++) {
                    boolean before = states.get(first).belongs()[person][group];
                    boolean after = states.get(second).belongs()[person][group];
                    want += before != after ? 1 : 0;
                }
            }
        }
        Due.answer(name("changed(" + first + ", " + second + ")"), x.changed(first, second), want);
    }

    private void since(int person, int group, int from) {
        int want = -3;
        if (!within(person, 6) || !within(group, 18) || !exists(from)) {
            want = RelationTuples.BAD;
        } else {
            for (int state = states.size() - 1; state >= from; state--) {
                if (isKept(state) && states.get(state).belongs()[person][group]) {
                    want = state;
                }
            }
        }
        String call = "since(" + person + ", " + group + ", " + from + ")";
        Due.answer(name(call), x.since(person, group, from), want);
    }
}
