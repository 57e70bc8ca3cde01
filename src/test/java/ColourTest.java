/** Promises 21 to 23: colours, colour and forced. */
public final class ColourTest {
    private static final int[] NO_LOOKS = {0, -1, 50001, Integer.MIN_VALUE, Integer.MAX_VALUE};
    private static final int[] NO_COLOURS = {0, -1, 9, Integer.MIN_VALUE, Integer.MAX_VALUE};

    private ColourTest() {
    }

    private static void promise21Colours() {
        SumBench x = Due.bench(0, 8, 0, 3);
        Due.is("1 .. 8 in two colours", x.colours(2, 50000), 0);
        Due.same("the first such", Due.colouring(x), "00110011");
        Due.is("in one colour", x.colours(1, 50000), 1);
        Due.same("the latest that was 0", Due.colouring(x), "00110011");
        Due.is("in eight colours", x.colours(8, 50000), 0);
        Due.same("a new colour comes behind all that are had", Due.colouring(x), "00100112");
        Due.is("1 .. 9 in two colours", Due.bench(0, 9, 0, 3).colours(2, 50000), 1);
        SumBench sums = Due.bench(0, 4, 1, 0);
        Due.is("1 .. 4 without sums", sums.colours(2, 500), 0);
        Due.same("the only one", Due.colouring(sums), "0110");
        SumBench rests = Due.bench(1, 5, 1, 0);
        Due.is("0 + 0 = 0 in any colour", rests.colours(8, 500), 1);
        Due.is("the beginning alone is looked at", rests.look(5), 1);
        Due.is("no colours", rests.colour(1), -1);
        SumBench caps = Due.bench(2, 2, 0, 3);
        Due.is("a plane by threes", caps.colours(3, 50000), 0);
        Due.is("a plane by threes in one", caps.colours(1, 50000), 1);
        SumBench free = new SumBench();
        Due.is("without laws", free.colours(8, 50000), 0);
        Due.same("all are of the first", Due.colouring(free), "00000000000000000000");
        Due.is("the beginning and each number", free.look(5), 21);
    }

    /** 1 2 3 4 without sums in two colours: the beginning, 0, 01, 010, 011, 0110. */
    private static void promise21Spent() {
        SumBench x = Due.bench(0, 4, 1, 0);
        for (int looks = 1; looks <= 5; looks++) {
            Due.is("colours(2, " + looks + ")", x.colours(2, looks), 2);
            Due.is("looks", x.look(5), looks);
            Due.is("no colours", x.colour(1), -1);
        }
        Due.is("colours(2, 6)", x.colours(2, 6), 0);
        Due.is("looks", x.look(5), 6);
        // 1 .. 5: the same CASES, and then neither COLOUR for 5.
        SumBench five = Due.bench(0, 5, 1, 0);
        Due.is("no CASE is left to look at: not spent", five.colours(2, 6), 1);
        Due.is("looks", five.look(5), 6);
        Due.is("one fewer", five.colours(2, 5), 2);
        for (int looks : NO_LOOKS) {
            Due.throwsIt("colours", IllegalArgumentException.class, () -> x.colours(2, looks));
            Due.throwsIt("forced", IllegalArgumentException.class, () -> x.forced(2, looks));
        }
        for (int many : NO_COLOURS) {
            Due.throwsIt("colours", IllegalArgumentException.class, () -> x.colours(many, 5));
            Due.throwsIt("forced", IllegalArgumentException.class, () -> x.forced(many, 5));
        }
        Due.is("looks stay", x.look(5), 6);
        Due.same("colours stay", Due.colouring(x), "0110");
    }

    private static void promise22Colour() {
        SumBench x = Due.bench(0, 4, 1, 0);
        x.colours(2, 500);
        int[] outside = {0, 5, -1, 61, 64 + 2, Integer.MIN_VALUE, Integer.MAX_VALUE};
        for (int y : outside) {
            Due.is("colour outside", x.colour(y), -1);
        }
        x.drop();
        Due.same("it stays with other laws", Due.colouring(x), "0110");
        Due.is("one that was spent", x.colours(2, 1), 2);
        Due.same("it stays", Due.colouring(x), "0110");
        x.forced(2, 500);
        Due.same("forced is not colours", Due.colouring(x), "0110");
        x.colours(3, 500);
        Due.same("the latest", Due.colouring(x), "0000");
        x.ground(0, 4);
        Due.same("gone with the ground", Due.colouring(x), "");
        x.ground(1, 3);
        x.colours(1, 500);
        Due.same("rests", Due.colouring(x), "000");
        Due.is("0 is a rest", x.colour(0), 0);
        Due.is("3 is none", x.colour(3), -1);
    }

    private static void promise23Forced() {
        Due.is("Schur, one colour", Due.bench(0, 60, 1, 0).forced(1, 50000), 2);
        Due.is("Schur, two colours", Due.bench(0, 60, 1, 0).forced(2, 50000), 5);
        Due.is("Schur, three colours", Due.bench(0, 60, 1, 0).forced(3, 50000), 14);
        Due.is("van der Waerden, 3 and two colours", Due.bench(0, 60, 0, 3).forced(2, 50000), 9);
        Due.is("van der Waerden, 4 and two colours", Due.bench(0, 60, 0, 4).forced(2, 50000), 35);
        Due.is("all can: n + 1", Due.bench(0, 13, 1, 0).forced(3, 50000), 14);
        Due.is("all can: n + 1", Due.bench(0, 12, 1, 0).forced(3, 50000), 13);
        Due.is("the last can't: n", Due.bench(0, 5, 1, 0).forced(2, 50000), 5);
        Due.is("the first can't", Due.bench(0, 5, 2, 0).forced(2, 50000), 1);
        Due.is("without laws", new SumBench().forced(1, 50000), 21);
        SumBench rests = Due.bench(1, 5, 0, 3);
        rests.count(50);
        int looks = rests.look(5);
        Due.is("another sort", rests.forced(2, 50000), -2);
        Due.is("no search was made", rests.look(5), looks);
        Due.is("another sort", Due.bench(2, 2, 0, 3).forced(2, 1), -2);
    }

    public static void main(String[] args) {
        promise21Colours();
        promise21Spent();
        promise22Colour();
        promise23Forced();
        Due.end("ColourTest");
    }
}
