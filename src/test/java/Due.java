/** Compares answers with those that are due; a test ends with end(), which exits with 1 if one was wrong. */
final class Due {
    private static int wrong = 0;

    private Due() {
    }

    static void answer(String call, long got, long want) {
        if (got != want) {
            wrong++;
            System.out.println(call + " answered " + got + ", due is " + want);
        }
    }

    static void bad(String call, int got) {
        answer(call, got, RelationTuples.BAD);
    }

    static void gone(String call, int got) {
        answer(call, got, RelationTuples.GONE);
    }

    static void holds(String claim, boolean truth) {
        if (!truth) {
            wrong++;
            System.out.println("not so: " + claim);
        }
    }

    /** Makes changes that change no entry, so that older states go out of the kept ones. */
    static void pass(RelationTuples x, int states) {
        for (int i = 0; i < states; i++) {
            x.rule(0, 1, false);
        }
    }

    static void end() {
        if (wrong != 0) {
            System.out.println(wrong + " answers are not as due");
            System.exit(1);
        }
    }
}
