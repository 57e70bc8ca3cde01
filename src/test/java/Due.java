/** Compares answers with those that are due, tells each that is not, and ends a test with exit code 1 for one. */
final class Due {
    private static int wrong = 0;
    private static int asked = 0;

    /** A call that is looked at for its answer or for what it throws. */
    interface Call {
        long answer();
    }

    private Due() {
    }

    static void is(String call, long got, long want) {
        asked++;
        if (got != want) {
            wrong++;
            System.out.println(call + " answered " + got + ", due is " + want);
        }
    }

    static void is(String call, boolean got, boolean want) {
        is(call, got ? 1 : 0, want ? 1 : 0);
    }

    static void same(String call, String got, String want) {
        asked++;
        if (!got.equals(want)) {
            wrong++;
            System.out.println(call + " answered " + got + ", due is " + want);
        }
    }

    /** The very exception is due, not one below or above it. */
    static void throwsIt(String call, Class<? extends RuntimeException> want, Call made) {
        same(call, outcome(made), "throws " + want.getSimpleName());
    }

    static String outcome(Call made) {
        try {
            return Long.toString(made.answer());
        } catch (RuntimeException e) {
            return "throws " + e.getClass().getSimpleName();
        }
    }

    /** A new object with this GROUND and one LAW. */
    static SumBench bench(int sort, int n, int kind, int a, int b, int c, boolean unlike) {
        SumBench x = new SumBench();
        is("ground(" + sort + ", " + n + ")", x.ground(sort, n), true);
        is("law(" + kind + ", " + a + ", ..)", x.law(kind, a, b, c, unlike), 0);
        return x;
    }

    static SumBench bench(int sort, int n, int kind, int a) {
        return bench(sort, n, kind, a, 0, 0, false);
    }

    /** The numbers of SET k, as (1 2 4). */
    static String set(SumBench x, int k) {
        StringBuilder text = new StringBuilder("(");
        for (int i = 0; i < x.size(k); i++) {
            text.append(i == 0 ? "" : " ").append(x.at(k, i));
        }
        return text.append(")").toString();
    }

    static void put(SumBench x, int k, int... numbers) {
        for (int number : numbers) {
            is("put(" + k + ", " + number + ", true)", x.put(k, number, true), true);
        }
    }

    static void end(String test) {
        System.out.println(test + ": " + asked + " answers, " + wrong + " wrong");
        if (wrong != 0 || asked == 0) {
            System.exit(1);
        }
    }
}
