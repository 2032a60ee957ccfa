/** Promise 3: nest. */
public final class NestTest {
    public static void main(String[] args) {
        everyCouple();
        chainsInBothOrders();
        ringsAndSelf();
        entryOutlivesRule();
        changesThatChangeNothing();
        wrongNumbers();
        Due.end();
    }

    private static void everyCouple() {
        for (int inner = 0; inner < 18; inner++) {
            for (int outer = 0; outer < 18; outer++) {
                String couple = inner + " in " + outer;
                RelationTuples x = new RelationTuples();
                x.enter(2, inner, true);
                Due.answer("nest " + couple, x.nest(inner, outer, true), 2);
                Due.answer(couple + ": groups(2, 2)", x.groups(2, 2), (1 << inner) | (1 << outer));
                Due.answer(couple + ": groups(1, 2)", x.groups(1, 2), 1 << inner);
                Due.answer("nest out " + couple, x.nest(inner, outer, false), 3);
                Due.answer(couple + ": groups(3, 2)", x.groups(3, 2), 1 << inner);
                Due.answer(couple + ": groups(2, 2) later", x.groups(2, 2), (1 << inner) | (1 << outer));
            }
        }
    }

    private static void chainsInBothOrders() {
        RelationTuples up = new RelationTuples();
        RelationTuples down = new RelationTuples();
        for (int i = 0; i < 17; i++) {
            up.nest(i, i + 1, true);
            down.nest(i + 1, i, true);
        }
        up.enter(0, 0, true);
        down.enter(0, 17, true);
        Due.answer("groups along a rising chain", up.groups(18, 0), (1 << 18) - 1);
        Due.answer("groups along a falling chain", down.groups(18, 0), (1 << 18) - 1);
        up.nest(8, 9, false);
        down.nest(9, 8, false);
        Due.answer("groups along a broken rising chain", up.groups(19, 0), (1 << 9) - 1);
        Due.answer("groups along a broken falling chain", down.groups(19, 0), ((1 << 9) - 1) << 9);
    }

    private static void ringsAndSelf() {
        RelationTuples x = new RelationTuples();
        x.nest(1, 7, true);
        x.nest(7, 13, true);
        x.nest(13, 1, true);
        x.nest(13, 13, true);
        Due.answer("nobody belongs for a ring alone", x.members(4, 1), 0);
        x.enter(4, 7, true);
        Due.answer("groups in a ring", x.groups(5, 4), (1 << 1) | (1 << 7) | (1 << 13));
        x.enter(4, 7, false);
        Due.answer("a ring keeps nobody in", x.groups(6, 4), 0);
    }

    private static void entryOutlivesRule() {
        RelationTuples x = new RelationTuples();
        x.enter(0, 0, true);
        x.nest(0, 1, true);
        x.rule(0, 1, true);
        x.rule(0, 1, false);
        Due.answer("the entry stays when the rule ends", x.members(4, 1), 1);
    }

    private static void changesThatChangeNothing() {
        RelationTuples x = new RelationTuples();
        Due.answer("striking out no entry", x.nest(1, 2, false), 1);
        Due.answer("entering", x.nest(1, 2, true), 2);
        Due.answer("entering again", x.nest(1, 2, true), 3);
        Due.answer("striking out", x.nest(1, 2, false), 4);
        Due.answer("sources(4, 2)", x.sources(4, 2), 1 << 2);
        Due.answer("sources(1, 2)", x.sources(1, 2), 1 << 2);
    }

    private static void wrongNumbers() {
        RelationTuples x = new RelationTuples();
        int[] wrong = {-1, 18, 32, Integer.MIN_VALUE, Integer.MAX_VALUE};
        for (int group : wrong) {
            Due.answer("nest(" + group + ", 0, true)", x.nest(group, 0, true), RelationTuples.BAD);
            Due.answer("nest(0, " + group + ", true)", x.nest(0, group, true), RelationTuples.BAD);
            Due.answer("nest(" + group + ", 0, false)", x.nest(group, 0, false), RelationTuples.BAD);
            Due.answer("nest(0, " + group + ", false)", x.nest(0, group, false), RelationTuples.BAD);
        }
        Due.answer("a BAD nest makes no state", x.latest(), 0);
        for (int group = 0; group < 18; group++) {
            Due.answer("a BAD nest enters nothing in " + group, x.sources(0, group), 1 << group);
        }
    }
}
