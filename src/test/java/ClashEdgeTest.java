/** The edges that promises 12 to 14 name: a test for each sentence. */
public final class ClashEdgeTest {
    private static final int LEAST = Integer.MIN_VALUE;
    private static final int MOST = Integer.MAX_VALUE;

    private ClashEdgeTest() {
    }

    // ---- 12: clash

    private static void lawOfTheFirst() {
        SumBench x = new SumBench();
        for (int i = 0; i < 5; i++) {
            x.law(0, 6, 0, 0, false);
        }
        Due.is("the last law", x.law(4, 1, -7, 0, true), 5);
        Due.put(x, 0, 2, 14);
        Due.is("of the last law alone", x.clash(0), 5);
        Due.same("its numbers", Due.witness(x), "(14 2 0 0)");
        Due.put(x, 0, 4, 6, 8, 10, 12);
        Due.is("of the first and the last", x.clash(0), 0);
        Due.same("its numbers", Due.witness(x), "(2 4 0 0)");
        Twins.changes("clash of a set that has another", y -> y.clash(3), "0");
        Twins.changes("clash of a set with 2 3 4", ClashEdgeTest::with234, y -> y.clash(2), "1", "witness");
    }

    private static SumBench with234() {
        SumBench x = Twins.laid();
        x.put(2, 2, true);
        x.put(2, 4, true);
        return x;
    }

    private static void keepsAll() {
        Twins.changes("clash of 4 5", x -> x.clash(1), "-1");
        Twins.changes("clash of one number", x -> x.clash(2), "-1");
        Due.is("of an empty set", Due.bench(1, 7, 1, 0).clash(0), -1);
        SumBench x = new SumBench();
        x.greatest(0, 500);
        Due.is("of all numbers without laws", x.clash(0), -1);
    }

    // ---- 13: witness

    private static void numbers0To3() {
        SumBench x = Due.bench(0, 20, 3, 0);
        Due.put(x, 0, 5, 9, 13, 17);
        Due.is("clash", x.clash(0), 0);
        int[] want = {5, 13, 9, 9};
        for (int i = 0; i < 4; i++) {
            Due.is("witness(" + i + ")", x.witness(i), want[i]);
        }
        Twins.changes("witness(0)", y -> y.witness(0), "1");
        Twins.changes("witness(3)", y -> y.witness(3), "0");
    }

    private static void anotherI() {
        for (int i : new int[] {-1, 4, 5, LEAST, MOST}) {
            Twins.changes("witness(" + i + ")", x -> x.witness(i), Twins.NONE_SUCH);
        }
    }

    private static void noWitness(String when, SumBench x) {
        for (int i = 0; i < 4; i++) {
            int place = i;
            Due.same("witness " + when, Due.outcome(() -> x.witness(place)), Twins.NONE_SUCH);
        }
    }

    private static void noneYet() {
        noWitness("of a new object", new SumBench());
        SumBench x = Due.bench(0, 20, 1, 0);
        Due.put(x, 0, 2, 4);
        Due.is("room", x.room(0), -2);
        x.greatest(1, 500);
        x.colours(1, 500);
        noWitness("without clash()", x);
        Due.is("clash", x.clash(2), -1);
        noWitness("behind a clash() that was NONE", x);
    }

    private static void sinceTheLatestGround() {
        SumBench x = Twins.laid();
        Due.same("witness", Due.witness(x), "(1 2 3 0)");
        Due.is("ground, not as told", x.ground(0, 61), false);
        Due.same("it stays", Due.witness(x), "(1 2 3 0)");
        Due.is("the same ground", x.ground(0, 6), true);
        noWitness("behind ground()", x);
        Due.is("clash", x.clash(0), -1);
        noWitness("behind ground() and a clash() that was NONE", x);
        x.law(2, 0, 0, 0, false);
        x.put(0, 1, true);
        Due.is("clash", x.clash(0), 0);
        Due.same("the first since then", Due.witness(x), "(1 1 1 0)");
    }

    private static void theLatestNotNone() {
        SumBench x = Due.bench(0, 20, 1, 0);
        Due.put(x, 0, 2, 4);
        Due.put(x, 1, 3, 6);
        x.clash(0);
        x.clash(1);
        Due.same("the latest", Due.witness(x), "(3 3 6 0)");
        x.clash(2);
        Due.same("not that which was NONE", Due.witness(x), "(3 3 6 0)");
        x.put(1, 6, false);
        x.room(0);
        x.drop();
        Due.same("sets and laws may be others", Due.witness(x), "(3 3 6 0)");
    }

    // ---- 14: room

    private static void leastThatComesIn() {
        SumBench x = Due.bench(0, 9, 0, 3);
        Due.is("of an empty set", x.room(0), 1);
        Due.put(x, 0, 1);
        Due.is("not one that it has", x.room(0), 2);
        Due.put(x, 0, 2);
        Due.is("not 3: 1 2 3", x.room(0), 4);
        Due.put(x, 0, 4, 8);
        Due.is("the last number: not 3, 5, 6, 7", x.room(0), 9);
        SumBench rests = Due.bench(1, 4, 0, 3);
        Due.is("0 of rests", rests.room(0), 0);
        Twins.changes("room of 4 5: not 1, for 1 + 4", y -> y.room(1), "2");
    }

    private static void full() {
        SumBench x = Due.bench(0, 9, 0, 3);
        Due.put(x, 0, 1, 2, 4, 8, 9);
        Due.is("by the laws", x.room(0), -1);
        Due.same("the set stays", Due.set(x, 0), "(1 2 4 8 9)");
        SumBench free = new SumBench();
        free.greatest(0, 500);
        Due.is("of all numbers", free.room(0), -1);
        free.put(0, 20, false);
        Due.is("but the last", free.room(0), 20);
        SumBench none = Due.bench(1, 2, 4, 1, -1, 0, false);
        Due.is("no number comes in", none.room(0), -1);
        Twins.changes("room of 1 6", y -> y.put(7, 3, true) ? y.room(7) : 9, "-1", "set 7");
    }

    private static void doesNotKeep() {
        Twins.changes("room of 1 2 3", x -> x.room(0), "-2");
        Twins.changes("room of all", x -> x.room(3), "-2");
        Twins.changes("room of 2 3 4, of the second law", ClashEdgeTest::with234, x -> x.room(2), "-2");
    }

    public static void main(String[] args) {
        Due.sentence("12: The LAW of the first CLASH that SET k has", ClashEdgeTest::lawOfTheFirst);
        Due.sentence("12: NONE, if it KEEPS all", ClashEdgeTest::keepsAll);
        Due.sentence("13: Number i (0 to 3) of the CLASH", ClashEdgeTest::numbers0To3);
        Due.sentence("13: NoSuchElementException: or another i", ClashEdgeTest::anotherI);
        Due.sentence("13: NoSuchElementException: there was none", ClashEdgeTest::noneYet);
        Due.sentence("13: there was none since the latest ground()", ClashEdgeTest::sinceTheLatestGround);
        Due.sentence("13: the latest clash() that was not NONE", ClashEdgeTest::theLatestNotNone);
        Due.sentence("14: the least number that it has not, with which it KEEPS them, too",
            ClashEdgeTest::leastThatComesIn);
        Due.sentence("14: NONE: it is full", ClashEdgeTest::full);
        Due.sentence("14: -2: it does not KEEP them", ClashEdgeTest::doesNotKeep);
        Due.end("ClashEdgeTest");
    }
}
