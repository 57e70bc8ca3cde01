/** The edges that promises 24 to 27 name: a test for each sentence. */
public final class ReckonEdgeTest {
    private static final int LEAST = Integer.MIN_VALUE;
    private static final int MOST = Integer.MAX_VALUE;

    private ReckonEdgeTest() {
    }

    /** All numbers of a GROUND in SET 0. */
    private static SumBench whole(int sort, int n) {
        SumBench x = Due.withSet(sort, n);
        x.greatest(0, 500);
        return x;
    }

    // ---- 24: sums

    private static void whats() {
        SumBench x = Due.withSet(0, 20, 2, 5);
        Due.put(x, 1, 3, 4);
        Due.sumsAre(x, 0, 1, 0, 4, "(5 6 8 9)");
        Due.sumsAre(x, 0, 1, 1, 4, "(1 2)");
        Due.sumsAre(x, 1, 0, 1, 4, "(1 2)");
        Due.sumsAre(x, 0, 1, 2, 4, "(6 8 15 20)");
        Twins.changes("sums(1, 2, 1, 4)", y -> y.sums(1, 2, 1, 4), "2", "set 4");
    }

    private static void anotherWhat() {
        for (int what : new int[] {-1, 3, 4, LEAST, MOST}) {
            Twins.changes("sums(1, 2, " + what + ", 3)", x -> x.sums(1, 2, what, 3), "-1");
        }
    }

    private static void unlikeOnes() {
        SumBench x = Due.withSet(0, 20, 1, 2, 3);
        Due.sumsAre(x, 0, 0, 0, 5, "(2 3 4 5 6)");
        Due.sumsAre(x, 0, 0, 2, 6, "(1 2 3 4 6 9)");
        Due.is("all by 60", whole(1, 60).sums(0, 0, 0, 1), 60);
        Due.is("all products by 60", whole(1, 60).sums(0, 0, 2, 1), 60);
        Due.is("all of three rests", whole(2, 3).sums(0, 0, 1, 1), 27);
        Due.sumsAre(Due.withSet(0, 20), 0, 0, 0, 0, "()");
    }

    private static void notInTheGroundCounted() {
        SumBench x = Due.withSet(0, 20, 10, 11);
        Due.sumsAre(x, 0, 0, 0, 3, "(20)");
        Due.sumsAre(x, 0, 0, 1, 3, "(1)");
        Due.sumsAre(x, 0, 0, 2, 3, "()");
        SumBench all = whole(0, 60);
        Due.is("2 .. 120", all.sums(0, 0, 0, 1), 119);
        Due.is("2 .. 60", all.size(1), 59);
        Due.is("-59 .. 59", all.sums(0, 0, 1, 1), 119);
        Due.is("1 .. 59", all.size(1), 59);
        Due.is("products to 3600", all.sums(0, 0, 2, 1), 1116);
        Due.is("1 .. 60", all.size(1), 60);
        SumBench one = Due.withSet(0, 1, 1);
        Due.sumsAre(one, 0, 0, 0, 1, "()");
        Due.sumsAre(one, 0, 0, 1, 1, "()");
        Due.sumsAre(one, 0, 0, 2, 1, "(1)");
    }

    private static void emptySets() {
        for (int what = 0; what < 3; what++) {
            SumBench x = Due.withSet(0, 20, 1, 2);
            Due.put(x, 5, 9);
            Due.sumsAre(x, 0, 7, what, 0, "()");
            Due.put(x, 5, 9);
            Due.sumsAre(x, 7, 0, what, 0, "()");
        }
    }

    private static void setToItself() {
        SumBench x = Due.withSet(0, 20, 1, 2);
        Due.is("to both", x.sums(0, 0, 0, 0), 3);
        Due.same("of what it was", Due.set(x, 0), "(2 3 4)");
        Due.put(x, 1, 1);
        Due.is("to the first", x.sums(0, 1, 1, 0), 3);
        Due.same("of what it was", Due.set(x, 0), "(1 2 3)");
        Due.is("to the second", x.sums(0, 1, 2, 1), 3);
        Due.same("of what it was", Due.set(x, 1), "(1 2 3)");
        Due.same("the first stays", Due.set(x, 0), "(1 2 3)");
    }

    // ---- 25: energy

    private static void rowsOfFour() {
        Due.is("of none", Due.withSet(0, 20).energy(0), 0);
        Due.is("of one", Due.withSet(0, 20, 7).energy(0), 1);
        Due.is("of two", Due.withSet(0, 20, 7, 9).energy(0), 6);
        Due.is("of all rests by 60", whole(1, 60).energy(0), 216000);
        Due.is("of all rows of three", whole(2, 3).energy(0), 19683);
        Twins.changes("energy of all", x -> x.energy(3), "146");
        SumBench again = Twins.laid();
        Due.is("of all", again.energy(3), 146);
        Due.is("of two, behind it", again.energy(1), 6);
        Due.is("of all again", again.energy(3), 146);
    }

    private static void asOfApart() {
        Due.is("sums above n", Due.withSet(0, 20, 18, 19, 20).energy(0), 19);
        Due.is("of all 60", whole(0, 60).energy(0), 144020);
        Due.is("0 and 2 by 4: both double to 0", Due.withSet(1, 4, 0, 2).energy(0), 8);
        Due.is("0 and 2 by 5", Due.withSet(1, 5, 0, 2).energy(0), 6);
        Due.is("1 2 by threes", Due.withSet(2, 1, 1, 2).energy(0), 6);
        Due.is("0 1 2 by threes", Due.withSet(2, 1, 0, 1, 2).energy(0), 27);
    }

    // ---- 26: order

    private static void leastH() {
        Due.is("of all: 1", whole(0, 60).order(0), 1);
        Due.is("of all but the last: 2", wholeWithout(60).order(0), 2);
        Due.is("of 1 alone: n", Due.withSet(0, 60, 1).order(0), 60);
        Due.is("of 1 .. 1", Due.withSet(0, 1, 1).order(0), 1);
        Due.is("the greatest that goes in is not always in", Due.withSet(0, 10, 1, 5, 6).order(0), 4);
        Twins.changes("order of 1 6", x -> x.order(7), "5");
    }

    private static SumBench wholeWithout(int number) {
        SumBench x = whole(0, 60);
        x.put(0, number, false);
        return x;
    }

    private static void mayComeAgain() {
        Due.is("4 is 2 2", Due.withSet(0, 4, 1, 2).order(0), 2);
        Due.is("6 is 2 2 2", Due.withSet(0, 6, 1, 2).order(0), 3);
        Due.is("at most: 5 is one, 4 are two", Due.withSet(0, 5, 1, 2, 5).order(0), 2);
    }

    private static void thereIsNone() {
        Twins.changes("order without 1", x -> x.order(1), "-1");
        Due.is("of none", Due.withSet(0, 20).order(0), -1);
        Due.is("of all but 1", wholeWithout(1).order(0), -1);
        Due.is("of none of 1 .. 1", Due.withSet(0, 1).order(0), -1);
    }

    private static void orderOfAnotherSort() {
        Twins.changes("order of rests", Twins::laidOfRests, x -> x.order(3), "-1");
        Due.is("of all rests", whole(1, 5).order(0), -1);
        Due.is("of all rows", whole(2, 1).order(0), -1);
    }

    // ---- 27: keep

    private static void emptyFirst() {
        Twins.changes("keep(3, 1)", x -> x.keep(3, 1), "3", "set 3");
        SumBench x = whole(0, 20);
        x.law(1, 0, 0, 0, false);
        SumBench other = Due.bench(0, 20, 1, 0);
        Due.is("what it had is nothing", x.keep(0, 7), other.keep(0, 7));
        Due.same("what it had is nothing", Due.set(x, 0), Due.set(other, 0));
    }

    /** Any two rests clash, so that the number asked first is the only one. */
    private static void seedGoesOn() {
        SumBench x = Due.bench(1, 9, 4, 9, 9, 0, true);
        for (int seed : new int[] {0, 1, 2, 3, 255, 256, 32767, 32768, 40000, 65534, 65535}) {
            Due.is("keep(1, " + seed + ")", x.keep(1, seed), 1);
            Due.is("the first asked by " + seed, x.at(1, 0), (25173L * seed + 13849) % 65536 % 9);
        }
    }

    /**
     * Of 1 2 3 without three in a row the two asked first. Seed 0: 13849 by 3 is 1, then 48742 by 2 is 0; seed 1:
     * 39022 by 3 is 1, then 61087 by 2 is 1; seed 2: 64195 by 3 is 1, then 7896 by 2 is 0; seed 65535: 54212 by 3 is
     * 2, then 36397 by 2 is 1.
     */
    private static void placeOfThoseNotYetAsked() {
        SumBench x = Due.bench(0, 3, 0, 3);
        int[] seeds = {0, 1, 2, 65535};
        String[] want = {"(1 2)", "(2 3)", "(1 2)", "(2 3)"};
        for (int i = 0; i < seeds.length; i++) {
            Due.is("keep", x.keep(0, seeds[i]), 2);
            Due.same("by seed " + seeds[i], Due.set(x, 0), want[i]);
        }
    }

    private static void asLongAsLawsAreKept() {
        int[][] laws = {{0, 3, 0, 0}, {0, 4, 0, 0}, {0, 6, 0, 0}, {1, 0, 0, 0}, {2, 0, 0, 0}, {3, 0, 0, 0},
            {4, 2, -1, -1}};
        for (int[] law : laws) {
            for (int sort = 0; sort < 3; sort++) {
                SumBench x = Due.bench(sort, sort == 2 ? 3 : 60, law[0], law[1], law[2], law[3], true);
                String call = "law " + law[0] + ", sort " + sort;
                // By threes no ROW has more than three unlike ones.
                boolean clashes = sort < 2 || law[1] < 4;
                Due.is(call + ": not all come", x.keep(0, 9) < x.look(2), clashes);
                Due.is(call + ": it KEEPS it", x.clash(0), -1);
                Due.is(call + ": no other would", x.room(0), -1);
            }
        }
    }

    private static void tillAllWereAsked() {
        for (int seed : new int[] {0, 77, 65535}) {
            SumBench x = Due.bench(0, 60, 0, 3);
            x.keep(0, seed);
            Due.is("it is full", x.room(0), -1);
            x.drop();
            Due.is("all come without laws", x.keep(0, seed), 60);
            x.law(4, 1, -1, 0, false);
            Due.is("none comes", x.keep(0, seed), 0);
            Due.same("none", Due.set(x, 0), "()");
        }
    }

    private static void anotherSeed() {
        for (int seed : new int[] {-1, 65536, 65537, LEAST, MOST}) {
            Twins.changes("keep(3, " + seed + ")", x -> x.keep(3, seed), Twins.NOT_ALLOWED);
        }
        Due.is("seed 0", Twins.laid().keep(0, 0), 3);
        Due.is("seed 65535", Twins.laid().keep(0, 65535), 3);
    }

    private static void sumsAndEnergy() {
        Due.sentence("24: x + y (what 0), x - y (1), x y (2)", ReckonEdgeTest::whats);
        Due.sentence("24: NONE: another what (SET to stays)", ReckonEdgeTest::anotherWhat);
        Due.sentence("24: how many unlike ones these are", ReckonEdgeTest::unlikeOnes);
        Due.sentence("24: those that are not in the GROUND (sort 0) counted, too",
            ReckonEdgeTest::notInTheGroundCounted);
        Due.sentence("24: x of SET j, y of SET k", ReckonEdgeTest::emptySets);
        Due.sentence("24: SET to has all numbers", ReckonEdgeTest::setToItself);
        Due.sentence("25: How many rows (x, y, u, v)", ReckonEdgeTest::rowsOfFour);
        Due.sentence("25: with x + y = u + v (as of APART)", ReckonEdgeTest::asOfApart);
    }

    private static void orderAndKeep() {
        Due.sentence("26: the least h for which each of 1 .. n is a sum of at most h", ReckonEdgeTest::leastH);
        Due.sentence("26: one may come again", ReckonEdgeTest::mayComeAgain);
        Due.sentence("26: NONE: there is none", ReckonEdgeTest::thereIsNone);
        Due.sentence("26: or another sort", ReckonEdgeTest::orderOfAnotherSort);
        Due.sentence("27: The SET k is empty; then numbers come", ReckonEdgeTest::emptyFirst);
        Due.sentence("27: the seed goes on as (25173 seed + 13849) MOD 65536", ReckonEdgeTest::seedGoesOn);
        Due.sentence("27: of the numbers not yet asked, rising, that with place seed MOD (how many these are)",
            ReckonEdgeTest::placeOfThoseNotYetAsked);
        Due.sentence("27: as long as LAWS are KEPT with each", ReckonEdgeTest::asLongAsLawsAreKept);
        Due.sentence("27: till all were asked: its size", ReckonEdgeTest::tillAllWereAsked);
        Due.sentence("27: the seed (0 .. 65535); IllegalArgumentException: another seed", ReckonEdgeTest::anotherSeed);
    }

    public static void main(String[] args) {
        sumsAndEnergy();
        orderAndKeep();
        Due.end("ReckonEdgeTest");
    }
}
