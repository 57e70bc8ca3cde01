/** The edges that promises 21 to 23 name: a test for each sentence. */
public final class ColourEdgeTest {
    private static final int LEAST = Integer.MIN_VALUE;
    private static final int MOST = Integer.MAX_VALUE;

    private ColourEdgeTest() {
    }

    // ---- 21: colours

    private static void soMany1To8() {
        for (int many = 1; many <= 8; many++) {
            // Any two rests clash, so that each wants a COLOUR of its own.
            SumBench x = Due.bench(1, 8, 4, 8, 8, 0, true);
            Due.is("colours(" + many + ", 50)", x.colours(many, 50), many == 8 ? 0 : 1);
            Due.is("look(5)", x.look(5), many + 1);
        }
        Due.is("8 for 9", Due.bench(1, 9, 4, 9, 9, 0, true).colours(8, 50), 1);
        Due.is("1 for 1", Due.bench(0, 1, 1, 0).colours(1, 50), 0);
    }

    private static void otherNumbersOfColours() {
        for (int many : new int[] {0, 9, -1, LEAST, MOST}) {
            Twins.changes("colours(" + many + ", 50)", x -> x.colours(many, 50), Twins.NOT_ALLOWED);
            Twins.changes("forced(" + many + ", 50)", x -> x.forced(many, 50), Twins.NOT_ALLOWED);
        }
    }

    private static void partedSo() {
        Twins.changes("colours(2, 50)", x -> x.colours(2, 50), "0", "looks");
        Twins.changes("colours of other laws", x -> x.drop() == 2 ? x.colours(2, 50) : 9, "0",
            "colours", "laws", "looks");
        SumBench x = Due.bench(0, 8, 0, 3);
        Due.is("1 .. 8 in two without three in a row", x.colours(2, 500), 0);
        Due.same("so", Due.colouring(x), "00110011");
    }

    private static void thatCantBe() {
        Twins.changes("colours(1, 50)", x -> x.colours(1, 50), "1", "looks");
        Due.is("1 .. 9 in two without three in a row", Due.bench(0, 9, 0, 3).colours(2, 500), 1);
    }

    private static void coloursSpent() {
        Twins.changes("the beginning and six numbers", x -> x.colours(2, 7), "0", "looks");
        Twins.changes("one fewer", x -> x.colours(2, 6), "2", "looks");
        Twins.changes("one", x -> x.colours(2, 1), "2", "looks");
        SumBench four = Due.bench(0, 4, 1, 0);
        Due.is("with one CASE that goes no further", four.colours(2, 6), 0);
        Due.is("one fewer", four.colours(2, 5), 2);
        SumBench five = Due.bench(0, 5, 1, 0);
        Due.is("just so many to show that none does", five.colours(2, 6), 1);
        Due.is("one fewer", five.colours(2, 5), 2);
    }

    // ---- 22: colour

    private static void latestThatWas0() {
        SumBench x = Due.bench(0, 4, 1, 0);
        Due.is("parted", x.colours(2, 50), 0);
        Due.same("so", Due.colouring(x), "0110");
        Due.is("can't be", x.colours(1, 50), 1);
        Due.is("SPENT", x.colours(3, 1), 2);
        Due.is("forced", x.forced(3, 50), 5);
        Due.same("as before", Due.colouring(x), "0110");
        x.drop();
        Due.same("as before, by other laws", Due.colouring(x), "0110");
        Due.is("parted", x.colours(2, 50), 0);
        Due.same("so", Due.colouring(x), "0000");
        Twins.changes("colour(3)", y -> y.colour(3), "1");
    }

    private static void noneSinceTheLatestGround() {
        SumBench x = Twins.laid();
        Due.is("colour", x.colour(3), 1);
        Due.is("ground, not as told", x.ground(0, 0), false);
        Due.is("it stays", x.colour(3), 1);
        Due.is("the same ground", x.ground(0, 6), true);
        Due.same("gone", Due.colouring(x), "");
        x.law(2, 0, 0, 0, false);
        Due.is("can't be", x.colours(2, 50), 1);
        Due.same("none yet", Due.colouring(x), "");
        x.drop();
        Due.is("SPENT", x.colours(2, 6), 2);
        Due.same("none yet", Due.colouring(x), "");
        Due.is("forced", x.forced(2, 50), 7);
        Due.same("none yet", Due.colouring(x), "");
        SumBench fresh = new SumBench();
        for (int y = 0; y <= 21; y++) {
            Due.is("of a new object", fresh.colour(y), -1);
        }
    }

    private static void notInTheGround() {
        for (int y : new int[] {0, 7, -1, 60, 61, 64, 64 + 1, -63, LEAST, MOST}) {
            Twins.changes("colour(" + y + ")", x -> x.colour(y), "-1");
        }
        SumBench rests = Twins.laidOfRests();
        Due.is("0 of rests", rests.colour(0), 0);
        Due.is("the last of rests", rests.colour(6), 2);
        Due.is("behind it", rests.colour(7), -1);
        Due.is("below", rests.colour(-1), -1);
        SumBench all = new SumBench();
        all.ground(0, 60);
        all.colours(1, 61);
        Due.is("60", all.colour(60), 0);
        Due.is("61", all.colour(61), -1);
        Due.is("0", all.colour(0), -1);
    }

    // ---- 23: forced

    private static void leastThatCantBe() {
        Due.is("1", Due.bench(0, 20, 2, 0).forced(8, 50), 1);
        Due.is("2", Due.bench(0, 20, 1, 0).forced(1, 50), 2);
        Due.is("5", Due.bench(0, 20, 1, 0).forced(2, 50), 5);
        Due.is("n", Due.bench(0, 5, 1, 0).forced(2, 50), 5);
        Twins.changes("forced(1, 50)", x -> x.forced(1, 50), "3", "looks");
    }

    private static void allCan() {
        Due.is("1 .. 4 in two without sums", Due.bench(0, 4, 1, 0).forced(2, 50), 5);
        SumBench one = new SumBench();
        one.ground(0, 1);
        Due.is("1 alone", one.forced(1, 50), 2);
        one.ground(0, 60);
        Due.is("60 without laws", one.forced(8, 61), 61);
        Twins.changes("forced(8, 50)", x -> x.forced(8, 50), "7", "looks");
    }

    private static void eachBySoMany() {
        SumBench x = Due.bench(0, 5, 1, 0);
        Due.is("6 LOOKS for the dearest", x.forced(2, 6), 5);
        Due.is("2 + 3 + 4 + 6 + 6", x.look(5), 21);
    }

    private static void oneWasSpent() {
        SumBench x = Due.bench(0, 5, 1, 0);
        Due.is("the fourth", x.forced(2, 5), -1);
        Due.is("2 + 3 + 4 + 5", x.look(5), 14);
        Due.is("the first", x.forced(2, 1), -1);
        Due.is("1", x.look(5), 1);
        SumBench free = new SumBench();
        free.ground(0, 60);
        Due.is("the last", free.forced(8, 60), -1);
        Twins.changes("forced(2, 2)", y -> y.forced(2, 2), "-1", "looks");
    }

    private static void anotherSort() {
        Twins.changes("forced of rests", Twins::laidOfRests, x -> x.forced(2, 50), "-2");
        SumBench rows = new SumBench();
        rows.ground(2, 1);
        Due.is("forced of rows", rows.forced(1, 1), -2);
        rows.ground(1, 2);
        Due.is("forced of two rests", rows.forced(8, 50000), -2);
    }

    public static void main(String[] args) {
        Due.sentence("21: COLOURS, so many (1 to 8)", ColourEdgeTest::soMany1To8);
        Due.sentence("21: IllegalArgumentException: other numbers of COLOURS, too",
            ColourEdgeTest::otherNumbersOfColours);
        Due.sentence("21: 0 the GROUND is parted so", ColourEdgeTest::partedSo);
        Due.sentence("21: 1 that can't be", ColourEdgeTest::thatCantBe);
        Due.sentence("21: 2 SPENT", ColourEdgeTest::coloursSpent);
        Due.sentence("22: by the latest colours() that was 0", ColourEdgeTest::latestThatWas0);
        Due.sentence("22: NONE: there was none since the latest ground()", ColourEdgeTest::noneSinceTheLatestGround);
        Due.sentence("22: or it is not in the GROUND", ColourEdgeTest::notInTheGround);
        Due.sentence("23: the least m for which 1 .. m can't be parted so (1 to n)", ColourEdgeTest::leastThatCantBe);
        Due.sentence("23: n + 1, if all can", ColourEdgeTest::allCan);
        Due.sentence("23: each with so many LOOKS", ColourEdgeTest::eachBySoMany);
        Due.sentence("23: NONE if one was SPENT", ColourEdgeTest::oneWasSpent);
        Due.sentence("23: -2: another sort", ColourEdgeTest::anotherSort);
        Due.end("ColourEdgeTest");
    }
}
