/** Promise 5: latest. */
public final class LatestTest {
    public static void main(String[] args) {
        RelationTuples x = new RelationTuples();
        Due.answer("latest() at first", x.latest(), 0);
        x.enter(0, 0, true);
        Due.answer("latest() after enter", x.latest(), 1);
        x.nest(0, 1, true);
        Due.answer("latest() after nest", x.latest(), 2);
        x.rule(0, 1, true);
        Due.answer("latest() after rule", x.latest(), 3);
        x.enter(0, 0, true);
        x.nest(5, 5, false);
        x.rule(2, 0, false);
        Due.answer("latest() after changes that change nothing", x.latest(), 6);
        x.enter(6, 0, true);
        x.nest(0, 18, true);
        x.rule(1, 1, true);
        Due.answer("latest() after BAD changes", x.latest(), 6);
        x.check(6, 0, 0);
        x.members(6, 0);
        x.groups(6, 0);
        x.sources(6, 0);
        x.changed(0, 6);
        x.since(0, 0, 0);
        Due.answer("latest() after questions", x.latest(), 6);
        allCallsThatAnObjectIsUsedFor();
        Due.end();
    }

    private static void allCallsThatAnObjectIsUsedFor() {
        RelationTuples x = new RelationTuples();
        for (int call = 1; call <= 510; call++) {
            Due.answer("change " + call, x.enter(call % 6, call % 18, true), call);
        }
        Due.answer("latest() as call 511", x.latest(), 510);
        Due.answer("members(503, 17) as call 512", x.members(503, 17), 1 << 5);
    }
}
