/** Compares answers with those that are due, tells each that is not, and ends a test with exit code 1 for one. */
final class Due {
    private static int wrong = 0;
    private static int asked = 0;
    private static int sentences = 0;
    /** The sentence of the document that is tested now, told ahead of what is wrong. */
    private static String sentence = "";

    /** A call that is looked at for its answer or for what it throws. */
    interface Call {
        long answer();
    }

    private Due() {
    }

    /** The test of one sentence; what it throws is told, and the tests of other sentences go on. */
    static void sentence(String words, Runnable test) {
        sentences++;
        sentence = "\"" + words + "\": ";
        same("its test", outcome(() -> {
            test.run();
            return 0;
        }), "0");
        sentence = "";
    }

    static void is(String call, long got, long want) {
        same(call, Long.toString(got), Long.toString(want));
    }

    static void is(String call, boolean got, boolean want) {
        is(call, bit(got), bit(want));
    }

    static long bit(boolean answer) {
        return answer ? 1 : 0;
    }

    static void same(String call, String got, String want) {
        asked++;
        if (!got.equals(want)) {
            wrong++;
            System.out.println(sentence + call + " answered " + got + ", due is " + want);
        }
    }

    /** The very exception is due, not one below or above it. */
    static void throwsIt(String call, Class<? extends RuntimeException> want, Call made) {
        same(call, outcome(made), "throws " + want.getSimpleName());
    }

    static String outcome(Call made) {
        try {
            return Long.toString(made.answer());
        } catch (RuntimeException e) {
            return "throws " + e.getClass().getSimpleName();
        }
    }

    /** A new object with this GROUND and one LAW. */
    static SumBench bench(int sort, int n, int kind, int a, int b, int c, boolean unlike) {
        SumBench x = new SumBench();
        is("ground(" + sort + ", " + n + ")", x.ground(sort, n), true);
        is("law(" + kind + ", " + a + ", ..)", x.law(kind, a, b, c, unlike), 0);
        return x;
    }

    static SumBench bench(int sort, int n, int kind, int a) {
        return bench(sort, n, kind, a, 0, 0, false);
    }

    /** A new object with this GROUND and these numbers in SET 0. */
    static SumBench withSet(int sort, int n, int... numbers) {
        SumBench x = new SumBench();
        is("ground(" + sort + ", " + n + ")", x.ground(sort, n), true);
        put(x, 0, numbers);
        return x;
    }

    /** sums() answers so many, and makes this set. */
    static void sumsAre(SumBench x, int j, int k, int what, int many, String set) {
        String call = "sums(" + j + ", " + k + ", " + what + ", 5)";
        is(call, x.sums(j, k, what, 5), many);
        same(call, set(x, 5), set);
    }

    /** The numbers of SET k, as (1 2 4). */
    static String set(SumBench x, int k) {
        StringBuilder text = new StringBuilder("(");
        for (int i = 0; i < x.size(k); i++) {
            text.append(i == 0 ? "" : " ").append(x.at(k, i));
        }
        return text.append(")").toString();
    }

    static void put(SumBench x, int k, int... numbers) {
        for (int number : numbers) {
            is("put(" + k + ", " + number + ", true)", x.put(k, number, true), true);
        }
    }

    /** The four numbers of the latest CLASH, as (1 2 0 0). */
    static String witness(SumBench x) {
        return "(" + x.witness(0) + " " + x.witness(1) + " " + x.witness(2) + " " + x.witness(3) + ")";
    }

    /** SET 0 of these numbers has this first CLASH of LAW 0; none, if that is null. */
    static void clashIs(SumBench x, String want, int... numbers) {
        x.sums(7, 7, 0, 0);
        put(x, 0, numbers);
        String set = set(x, 0);
        is("clash of " + set, x.clash(0), want == null ? -1 : 0);
        if (want != null) {
            same("witness of " + set, witness(x), want);
        }
    }

    /** The COLOURS of all numbers in turn, as 0110; nothing, if there are none. */
    static String colouring(SumBench x) {
        StringBuilder text = new StringBuilder();
        for (int y = x.look(0) == 0 ? 1 : 0; x.colour(y) != -1; y++) {
            text.append(x.colour(y));
        }
        return text.toString();
    }

    /** All KINDS by these TURNS, each as (its first one, how many, how many TURNS leave that). */
    static String kinds(SumBench x, int turns) {
        StringBuilder text = new StringBuilder();
        int many = x.kinds(turns);
        for (int i = 0; i < many; i++) {
            text.append('(').append(x.kind(turns, i, 0)).append(' ').append(x.kind(turns, i, 1)).append(' ')
                .append(x.kind(turns, i, 2)).append(')');
        }
        return text.toString();
    }

    static void end(String test) {
        String told = sentences == 0 ? "" : sentences + " sentences, ";
        System.out.println(test + ": " + told + asked + " answers, " + wrong + " wrong");
        if (wrong != 0 || asked == 0) {
            System.exit(1);
        }
    }
}
