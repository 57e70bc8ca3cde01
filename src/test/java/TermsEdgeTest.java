/** The edges that "Terms" names, of GROUNDS, SETS and LAWS: a test for each sentence. */
public final class TermsEdgeTest {
    private static final int LEAST = Integer.MIN_VALUE;
    private static final int MOST = Integer.MAX_VALUE;

    private TermsEdgeTest() {
    }

    private static void groundHas(int sort, int n, int first, int last) {
        SumBench x = new SumBench();
        String call = "ground(" + sort + ", " + n + ")";
        Due.is(call, x.ground(sort, n), true);
        Due.same(call + ": look", x.look(0) + " " + x.look(1) + " " + x.look(2),
            sort + " " + n + " " + (last - first + 1));
        for (int y = first - 1; y <= last + 1; y++) {
            Due.is(call + ": put(0, " + y + ", true)", x.put(0, y, true), y >= first && y <= last);
        }
        Due.is(call + ": the first number", x.at(0, 0), first);
        Due.is(call + ": the last number", x.at(0, last - first), last);
    }

    private static void noGround(int sort, int... ns) {
        for (int n : ns) {
            Twins.changes("ground(" + sort + ", " + n + ")", x -> Due.bit(x.ground(sort, n)), "0");
        }
    }

    private static void sort0() {
        for (int n : new int[] {1, 2, 59, 60}) {
            groundHas(0, n, 1, n);
        }
        noGround(0, 0, 61, -1, LEAST, MOST);
    }

    private static void sort1() {
        for (int n : new int[] {2, 3, 59, 60}) {
            groundHas(1, n, 0, n - 1);
        }
        noGround(1, 1, 61, 0, -1, LEAST, MOST);
    }

    private static void sort2() {
        groundHas(2, 1, 0, 2);
        groundHas(2, 2, 0, 8);
        groundHas(2, 3, 0, 26);
        noGround(2, 0, 4, -1, LEAST, MOST);
    }

    private static void noOtherSort() {
        noGround(-1, 1, 2, 3);
        noGround(3, 1, 2, 3);
        noGround(LEAST, 2);
        noGround(MOST, 2);
    }

    /** One number with another: what it makes is in the GROUND, or outside, if that is null. */
    private static void makes(int sort, int n, int what, int p, int q, Integer want) {
        SumBench x = new SumBench();
        x.ground(sort, n);
        x.put(1, p, true);
        x.put(2, q, true);
        String call = "sort " + sort + ", n " + n + ": " + p + " " + "+-*".charAt(what) + " " + q;
        Due.is(call + " is one number", x.sums(1, 2, what, 3), 1);
        Due.same(call, Due.set(x, 3), want == null ? "()" : "(" + want + ")");
    }

    private static void lowestDigitFirst() {
        makes(2, 3, 0, 1, 3, 4);
        makes(2, 3, 0, 1, 9, 10);
        makes(2, 3, 0, 3, 18, 21);
        makes(2, 2, 0, 2, 6, 8);
    }

    private static void numbersAsNumbers() {
        makes(0, 60, 0, 30, 30, 60);
        makes(0, 60, 0, 30, 31, null);
        makes(0, 60, 0, 60, 60, null);
        makes(0, 1, 0, 1, 1, null);
        makes(0, 60, 1, 60, 59, 1);
        makes(0, 60, 1, 60, 60, null);
        makes(0, 60, 1, 1, 60, null);
        makes(0, 60, 2, 6, 10, 60);
        makes(0, 60, 2, 7, 9, null);
        makes(0, 60, 2, 60, 60, null);
        makes(0, 1, 2, 1, 1, 1);
    }

    private static void restsByN() {
        makes(1, 60, 0, 59, 1, 0);
        makes(1, 60, 0, 58, 1, 59);
        makes(1, 60, 0, 59, 59, 58);
        makes(1, 2, 0, 1, 1, 0);
        makes(1, 60, 1, 0, 1, 59);
        makes(1, 60, 1, 0, 59, 1);
        makes(1, 60, 1, 59, 59, 0);
        makes(1, 60, 2, 59, 59, 1);
        makes(1, 60, 2, 30, 2, 0);
        makes(1, 60, 2, 0, 59, 0);
        makes(1, 2, 2, 1, 1, 1);
    }

    private static void rowsRestByRest() {
        makes(2, 1, 0, 2, 1, 0);
        makes(2, 3, 0, 8, 1, 6);
        makes(2, 3, 0, 26, 26, 13);
        makes(2, 3, 0, 26, 13, 0);
        makes(2, 3, 1, 0, 1, 2);
        makes(2, 3, 1, 0, 13, 26);
        makes(2, 3, 1, 9, 10, 2);
        makes(2, 3, 2, 26, 26, 13);
        makes(2, 3, 2, 5, 7, 8);
        makes(2, 3, 2, 1, 3, 0);
        makes(2, 1, 2, 2, 2, 1);
    }

    /** Factors at their ends, and the same factor less than 0. */
    private static void factorTimesNumber() {
        Due.clashIs(Due.bench(0, 60, 4, 9, -9, 0, false), "(60 60 0 0)", 60);
        Due.clashIs(Due.bench(0, 60, 4, -9, 9, 0, true), null, 59, 60);
        Due.clashIs(Due.bench(0, 60, 4, 9, -1, 0, false), "(6 54 0 0)", 6, 7, 54, 60);
        Due.clashIs(Due.bench(0, 60, 4, 9, 1, 0, false), null, 6, 54);
        Due.clashIs(Due.bench(0, 60, 4, 9, 9, -9, false), "(30 30 60 0)", 30, 60);
        Due.clashIs(Due.bench(0, 60, 4, -9, -9, 9, false), "(30 30 60 0)", 30, 60);
        Due.clashIs(Due.bench(0, 60, 4, 9, -9, -9, false), "(60 30 30 0)", 30, 60);
        Due.clashIs(Due.bench(0, 60, 4, 9, 9, 9, false), null, 1, 30, 60);
        Due.clashIs(Due.bench(0, 60, 4, -9, -9, -9, false), null, 1, 30, 60);
        Due.clashIs(Due.bench(1, 60, 4, 9, 1, 0, false), "(59 9 0 0)", 9, 59);
        Due.clashIs(Due.bench(1, 60, 4, -9, 1, 0, false), "(59 51 0 0)", 51, 59);
        Due.clashIs(Due.bench(2, 3, 4, 3, 1, 0, true), "(5 0 0 0)", 0, 5);
        Due.clashIs(Due.bench(2, 3, 4, -2, 1, 0, true), "(14 25 0 0)", 14, 25);
        Due.clashIs(Due.bench(2, 3, 4, 8, 1, 0, false), "(14 14 0 0)", 14);
        Due.clashIs(Due.bench(2, 3, 4, -9, 1, 0, false), null, 13, 26);
    }

    private static void eightSets() {
        SumBench x = new SumBench();
        for (int k = 0; k < 8; k++) {
            Due.is("put(" + k + ", ..)", x.put(k, k + 1, true), true);
        }
        for (int k = 0; k < 8; k++) {
            Due.same("set " + k, Due.set(x, k), "(" + (k + 1) + ")");
        }
    }

    private static void someOfItsNumbers() {
        for (int sort = 0; sort < 3; sort++) {
            SumBench x = new SumBench();
            x.ground(sort, sort == 2 ? 3 : 60);
            int first = sort == 0 ? 1 : 0;
            int many = sort == 2 ? 27 : 60;
            Due.is("none", x.size(5), 0);
            for (int y = first; y < first + many; y++) {
                Due.is("one more", x.put(5, y, true), true);
            }
            Due.is("all", x.size(5), many);
            Due.is("all: the last", x.at(5, many - 1), first + many - 1);
        }
    }

    private static void orderOfSets() {
        SumBench x = Due.bench(0, 4, 1, 0);
        Due.is("list", x.list(500), 4);
        StringBuilder all = new StringBuilder();
        for (int i = 0; i < 4; i++) {
            x.listed(0, i);
            all.append(Due.set(x, 0));
        }
        // 1 4 is ahead of 2 3, though its sum is the same, its last number greater and its last place higher.
        Due.same("all in ORDER", all.toString(), "(1 3)(1 4)(2 3)(3 4)");
    }

    private static void lawsInTurn() {
        SumBench x = new SumBench();
        for (int i = 0; i < 6; i++) {
            Due.is("law", x.law(1, 0, 0, 0, false), i);
        }
        Due.is("a seventh", x.law(1, 0, 0, 0, false), -1);
        Due.is("there are 6", x.look(3), 6);
    }

    private static int[] steps(int from, int by, int many) {
        int[] numbers = new int[many];
        for (int i = 0; i < many; i++) {
            numbers[i] = from + i * by;
        }
        return numbers;
    }

    private static void rowOfSoMany() {
        for (int k = 3; k <= 6; k++) {
            SumBench x = Due.bench(0, 60, 0, k);
            Due.clashIs(x, null, steps(2, 3, k - 1));
            Due.clashIs(x, "(2 5 0 0)", steps(2, 3, k));
            Due.clashIs(x, "(2 5 0 0)", steps(2, 3, k + 1));
            Due.clashIs(x, "(" + (60 - 10 * (k - 1)) + " " + (70 - 10 * (k - 1)) + " 0 0)", steps(70 - 10 * k, 10, k));
            eachOfARow(0, k);
            eachOfARow(1, k);
        }
    }

    /** Of a GROUND that is one ROW, any number may be the last to come: it does not come in. */
    private static void eachOfARow(int sort, int k) {
        SumBench x = Due.bench(sort, k, 0, k);
        int first = sort == 0 ? 1 : 0;
        for (int last = first; last < first + k; last++) {
            x.sums(7, 7, 0, 0);
            for (int y = first; y < first + k; y++) {
                x.put(0, y, y != last);
            }
            Due.is("ROW of " + k + ", sort " + sort + ": it is full without " + last, x.room(0), -1);
        }
    }

    /** Counted by another program, which tries all sets of 1 .. n. */
    private static void greatestWithoutRows() {
        int[][] sizes = {{1, 2, 3, 3, 4, 5, 5, 6, 7, 8, 8, 8, 9, 9}, {1, 2, 3, 4, 4, 5, 6, 7, 8, 8, 9, 10, 11, 12},
            {1, 2, 3, 4, 5, 5, 6, 7, 8, 9, 9, 10, 11, 12}};
        for (int k = 4; k <= 6; k++) {
            for (int n = 1; n <= 14; n++) {
                SumBench x = Due.bench(0, n, 0, k);
                Due.is("no " + k + " in a row of 1 .. " + n, x.greatest(0, 50000), sizes[k - 4][n - 1]);
            }
        }
    }

    private static void rowOfUnlikeOnes() {
        Due.clashIs(Due.bench(1, 2, 0, 3), null, 0, 1);
        Due.clashIs(Due.bench(1, 4, 0, 3), null, 0, 2);
        Due.clashIs(Due.bench(1, 3, 0, 3), "(0 1 0 0)", 0, 1, 2);
        Due.clashIs(Due.bench(1, 5, 0, 5), "(0 1 0 0)", 0, 1, 2, 3, 4);
        Due.clashIs(Due.bench(1, 5, 0, 6), null, 0, 1, 2, 3, 4);
        Due.clashIs(Due.bench(1, 6, 0, 6), "(0 1 0 0)", 0, 1, 2, 3, 4, 5);
        Due.clashIs(Due.bench(1, 6, 0, 4), null, 0, 2, 4);
        Due.clashIs(Due.bench(1, 60, 0, 6), null, 0, 12, 24, 36, 48);
        Due.clashIs(Due.bench(1, 60, 0, 6), "(0 10 0 0)", 0, 10, 20, 30, 40, 50);
        Due.clashIs(Due.bench(2, 1, 0, 3), "(0 1 0 0)", 0, 1, 2);
        Due.clashIs(Due.bench(2, 1, 0, 4), null, 0, 1, 2);
        Due.is("all rests by 5 without a row of 6", Due.bench(1, 5, 0, 6).greatest(0, 50), 5);
        Due.is("all rests by 5 but one without a row of 5", Due.bench(1, 5, 0, 5).greatest(0, 50), 4);
        Due.is("all of threes without a row of 4", Due.bench(2, 3, 0, 4).greatest(0, 50000), 27);
        Due.is("both rests by 2 without a row of 3", Due.bench(1, 2, 0, 3).greatest(0, 50), 2);
        Due.is("2 of 4 rests, and no third", Due.bench(1, 4, 0, 3).greatest(0, 50), 2);
        Due.is("2 of one rest by 3", Due.bench(2, 1, 0, 3).greatest(0, 50), 2);
        Due.is("4 of two rests by 3", Due.bench(2, 2, 0, 3).greatest(0, 5000), 4);
    }

    private static void rowsGoOn() {
        Due.clashIs(Due.bench(0, 20, 0, 3), "(1 2 0 0)", 3, 2, 1);
        Due.clashIs(Due.bench(0, 20, 0, 3), null, 1, 2, 20);
        Due.clashIs(Due.bench(1, 60, 0, 3), "(0 59 0 0)", 58, 59, 0);
        Due.clashIs(Due.bench(1, 60, 0, 3), "(1 59 0 0)", 57, 59, 1);
        Due.clashIs(Due.bench(1, 6, 0, 4), "(1 0 0 0)", 0, 1, 4, 5);
        Due.clashIs(Due.bench(2, 3, 0, 3), "(0 13 0 0)", 0, 13, 26);
    }

    /** "unlike" is told of SUM, PRODUCT and EQUATION alone. */
    private static void twoMayBeOne() {
        for (int kind = 1; kind <= 2; kind++) {
            Due.clashIs(Due.bench(0, 20, kind, 0, 0, 0, false), "(2 2 4 0)", 2, 4);
            Due.clashIs(Due.bench(0, 20, kind, 0, 0, 0, true), null, 2, 4);
        }
        Due.clashIs(Due.bench(0, 20, 2, 0, 0, 0, false), "(1 1 1 0)", 1);
        Due.clashIs(Due.bench(0, 20, 2, 0, 0, 0, true), null, 1, 2);
        Due.clashIs(Due.bench(1, 9, 1, 0, 0, 0, false), "(0 0 0 0)", 0);
        Due.clashIs(Due.bench(1, 9, 1, 0, 0, 0, true), null, 0, 1);
        Due.is("2 3 and then 7: not 4, 5, 6", roomBehind23(false), 7);
        Due.is("2 3 and then 4, of unlike ones", roomBehind23(true), 4);
        SumBench rests = Due.bench(1, 7, 1, 0, 0, 0, true);
        Due.put(rests, 0, 0, 1, 2);
        Due.is("0 1 2 and then 4, of unlike rests: not 3, for 1 + 2", rests.room(0), 4);
    }

    private static int roomBehind23(boolean unlike) {
        SumBench x = Due.bench(0, 20, 1, 0, 0, 0, unlike);
        Due.put(x, 0, 2, 3);
        return x.room(0);
    }

    private static void sumAtTheEnd() {
        Due.clashIs(Due.bench(0, 20, 1, 0), "(10 10 20 0)", 10, 20);
        Due.clashIs(Due.bench(0, 20, 1, 0), "(1 19 20 0)", 1, 19, 20);
        Due.clashIs(Due.bench(0, 19, 1, 0), null, 10, 19);
        Due.clashIs(Due.bench(1, 20, 1, 0), "(11 11 2 0)", 2, 11);
        Due.clashIs(Due.bench(0, 60, 2, 0), "(6 10 60 0)", 6, 10, 60);
        Due.clashIs(Due.bench(0, 60, 2, 0), null, 8, 9, 60);
        Due.clashIs(Due.bench(1, 60, 2, 0), "(8 8 4 0)", 4, 8);
    }

    private static void apartPairs() {
        Due.clashIs(Due.bench(0, 20, 3, 0), null, 1);
        Due.clashIs(Due.bench(0, 20, 3, 0), null, 1, 2);
        Due.clashIs(Due.bench(0, 20, 3, 0), "(1 3 2 2)", 1, 2, 3);
        Due.clashIs(Due.bench(0, 20, 3, 0), "(1 9 2 8)", 1, 2, 8, 9);
        Due.clashIs(Due.bench(1, 7, 3, 0), "(0 0 3 4)", 0, 3, 4);
        Due.clashIs(Due.bench(1, 2, 3, 0), "(0 0 1 1)", 0, 1);
        Due.clashIs(Due.bench(1, 60, 3, 0), "(29 29 59 59)", 29, 59);
        Due.is("2 of 3 numbers", Due.bench(0, 3, 3, 0).greatest(0, 50), 2);
        Due.is("1 of 2 rests", Due.bench(1, 2, 3, 0).greatest(0, 50), 1);
    }

    private static void apartAboveN() {
        Due.clashIs(Due.bench(0, 4, 3, 0), "(2 4 3 3)", 2, 3, 4);
        Due.clashIs(Due.bench(0, 60, 3, 0), "(56 60 57 59)", 56, 57, 59, 60);
        Due.clashIs(Due.bench(0, 60, 3, 0), null, 30, 60);
        Due.clashIs(Due.bench(1, 60, 3, 0), "(0 0 30 30)", 0, 30);
        Due.clashIs(Due.bench(2, 3, 3, 0), "(0 0 1 2)", 0, 1, 2);
        SumBench x = Due.bench(0, 60, 3, 0);
        Due.put(x, 0, 58, 59);
        Due.is("57 and 60 do not come in", x.room(0), 1);
        Due.is("58 59 and 60 clash", x.put(0, 60, true) ? x.clash(0) : -1, 0);
    }

    private static void equationNumbers() {
        for (int a : new int[] {-9, 9}) {
            SumBench x = new SumBench();
            Due.is("a", x.law(4, a, 1, 1, false), 0);
            Due.is("b", x.law(4, 1, a, 1, false), 1);
            Due.is("c", x.law(4, 1, 1, a, false), 2);
            Due.is("all", x.law(4, a, a, a, true), 3);
        }
        for (int a : new int[] {-10, 10, LEAST, MOST}) {
            Twins.changes("a " + a, x -> x.law(4, a, 1, 1, false), "-1");
            Twins.changes("b " + a, x -> x.law(4, 1, a, 1, false), "-1");
            Twins.changes("c " + a, x -> x.law(4, 1, 1, a, false), "-1");
        }
    }

    private static void equationOfTwo() {
        SumBench x = new SumBench();
        Due.is("without c", x.law(4, 1, 1, 0, false), 0);
        Due.is("without b", x.law(4, 1, 0, 1, false), 1);
        Due.is("without a", x.law(4, 0, 1, 1, false), 2);
        Twins.changes("a alone", y -> y.law(4, 1, 0, 0, false), "-1");
        Twins.changes("b alone", y -> y.law(4, 0, 1, 0, false), "-1");
        Twins.changes("c alone", y -> y.law(4, 0, 0, 1, false), "-1");
        Twins.changes("none", y -> y.law(4, 0, 0, 0, false), "-1");
    }

    private static void notInTheEquation() {
        Due.clashIs(Due.bench(0, 20, 4, 0, 2, -1, false), "(0 3 6 0)", 3, 6);
        Due.clashIs(Due.bench(0, 20, 4, 2, 0, -1, false), "(3 0 6 0)", 3, 6);
        Due.clashIs(Due.bench(0, 20, 4, 2, -1, 0, false), "(3 6 0 0)", 3, 6);
        Due.clashIs(Due.bench(1, 20, 4, 2, -1, 0, false), "(3 6 0 0)", 3, 6, 19);
        // A factor that is 0 by n alone is in it.
        Due.clashIs(Due.bench(1, 6, 4, 6, 1, 1, false), "(1 1 5 0)", 1, 2, 5);
    }

    private static void equationOfUnlikeOnes() {
        Due.clashIs(Due.bench(0, 20, 4, 1, -1, 0, false), "(5 5 0 0)", 5);
        Due.clashIs(Due.bench(0, 20, 4, 1, -1, 0, true), null, 5, 6);
        Due.clashIs(Due.bench(0, 20, 4, 1, 1, -2, true), null, 5, 6);
        Due.clashIs(Due.bench(0, 20, 4, 1, 1, -2, true), "(5 7 6 0)", 5, 6, 7);
        Due.clashIs(Due.bench(0, 20, 4, 1, 1, -3, true), null, 2, 4);
        Due.clashIs(Due.bench(0, 20, 4, 1, 1, -3, false), "(2 4 2 0)", 2, 4);
        Due.clashIs(Due.bench(0, 20, 4, 1, -3, 1, true), null, 2, 4);
        Due.clashIs(Due.bench(0, 20, 4, -3, 1, 1, true), null, 2, 4);
        // The 0 for one that is not in it is like no number: 0 may be one of the others.
        Due.clashIs(Due.bench(1, 4, 4, 1, 2, 0, true), "(0 2 0 0)", 0, 2);
        Due.clashIs(Due.bench(1, 4, 4, 0, 1, 2, true), "(0 0 2 0)", 0, 2);
        Due.clashIs(Due.bench(1, 4, 4, 1, 0, 2, true), "(0 0 2 0)", 0, 2);
        Due.clashIs(Due.bench(1, 4, 4, 0, 2, 1, true), "(0 2 0 0)", 0, 2);
        Due.clashIs(Due.bench(1, 4, 4, 2, 0, 1, true), "(2 0 0 0)", 0, 2);
        Due.clashIs(Due.bench(1, 4, 4, 2, 1, 0, true), "(2 0 0 0)", 0, 2);
    }

    /** 7 = 2 2 + 3 1 is the only CLASH of 1 .. 7, wherever x, y and z stand, and whichever comes last. */
    private static void wholeClashAlone() {
        int[][] laws = {{1, -2, -3}, {1, -3, -2}, {-2, 1, -3}, {-3, 1, -2}, {-2, -3, 1}, {-3, -2, 1}};
        for (int[] law : laws) {
            SumBench x = Due.bench(0, 7, 4, law[0], law[1], law[2], true);
            for (int last = 1; last <= 7; last++) {
                x.sums(7, 7, 0, 0);
                for (int y = 1; y <= 7; y++) {
                    x.put(0, y, y != last);
                }
                boolean ofIt = last == 1 || last == 2 || last == 7;
                Due.is("clash without " + last, x.clash(0), ofIt ? -1 : 0);
                Due.is("room without " + last, x.room(0), ofIt ? -1 : -2);
            }
        }
        // Counted by another program, which tries all sets: here x and y may have several z.
        Due.is("x + y + 3 z by 9", Due.bench(1, 9, 4, 1, 1, 3, true).count(5000), 130);
        Due.is("x + 3 y + z by 9", Due.bench(1, 9, 4, 1, 3, 1, true).count(5000), 130);
        Due.is("3 x + y + z by 9", Due.bench(1, 9, 4, 3, 1, 1, true).count(5000), 130);
        Due.is("3 x + 3 y + 3 z by 9", Due.bench(1, 9, 4, 3, 3, 3, true).count(5000), 127);
        Due.is("2 x + 4 y + 4 z by 8", Due.bench(1, 8, 4, 2, 4, 4, true).count(5000), 68);
    }

    private static void noClashOfAny() {
        SumBench x = new SumBench();
        for (int k = 3; k <= 6; k++) {
            x.law(0, k, 0, 0, false);
        }
        x.law(3, 0, 0, 0, false);
        Due.is("the sixth", x.law(4, 1, -5, 0, false), 5);
        Due.is("none in an empty set", x.clash(0), -1);
        Due.put(x, 0, 3, 15);
        Due.is("of the last LAW alone", x.clash(0), 5);
        Due.is("it does not KEEP them", x.room(0), -2);
        SumBench free = new SumBench();
        Due.is("without LAWS all KEEP them", free.greatest(0, 500), 20);
        Due.is("without LAWS there is no clash", free.clash(0), -1);
    }

    private static void firstClash() {
        SumBench x = Due.bench(0, 20, 2, 0);
        x.law(1, 0, 0, 0, false);
        Due.put(x, 0, 1, 2);
        Due.is("of the least LAW", x.clash(0), 0);
        Due.same("of the least LAW", Due.witness(x), "(1 1 1 0)");
        Due.clashIs(Due.bench(0, 20, 1, 0), "(2 9 11 0)", 2, 9, 11, 3, 6);
        Due.clashIs(Due.bench(0, 20, 1, 0), "(2 3 5 0)", 2, 3, 5, 9, 11);
        Due.clashIs(Due.bench(1, 9, 4, 3, 3, 3, true), "(1 4 7 0)", 1, 4, 7, 8);
        Due.clashIs(Due.bench(1, 9, 4, 3, 3, 3, true), "(0 1 2 0)", 0, 1, 2, 5, 8);
        Due.clashIs(Due.bench(1, 9, 4, 1, 1, 3, false), "(1 2 2 0)", 1, 2, 5, 8);
        Due.clashIs(Due.bench(0, 20, 3, 0), "(1 3 2 2)", 1, 2, 3, 4);
        Due.clashIs(Due.bench(0, 20, 3, 0), "(1 12 5 8)", 1, 5, 8, 12, 13);
    }

    public static void main(String[] args) {
        Due.sentence("sort 0: the numbers 1 .. n (n 1 to 60)", TermsEdgeTest::sort0);
        Due.sentence("1: the rests 0 .. n - 1 by n (n 2 to 60)", TermsEdgeTest::sort1);
        Due.sentence("2: rows of n rests by 3 (n 1 to 3), told as 0 .. 3^n - 1", TermsEdgeTest::sort2);
        Due.sentence("A GROUND: sort 0, 1, 2", TermsEdgeTest::noOtherSort);
        Due.sentence("the lowest digit to the base 3 is the first rest", TermsEdgeTest::lowestDigitFirst);
        Due.sentence("x + y, x y: of sort 0 as of numbers", TermsEdgeTest::numbersAsNumbers);
        Due.sentence("x + y, x y: of 1 by n", TermsEdgeTest::restsByN);
        Due.sentence("x + y, x y: of 2 rest by rest, by 3", TermsEdgeTest::rowsRestByRest);
        Due.sentence("a x with a whole number a", TermsEdgeTest::factorTimesNumber);
        Due.sentence("SETS 0 .. 7", TermsEdgeTest::eightSets);
        Due.sentence("SETS have some of its numbers", TermsEdgeTest::someOfItsNumbers);
        Due.sentence("ORDER of sets: that one is ahead which has the least number that just one of both has",
            TermsEdgeTest::orderOfSets);
        Due.sentence("LAWS, 0 .. 5, told one behind another", TermsEdgeTest::lawsInTurn);
        Due.sentence("ROW of k (3 to 6)", TermsEdgeTest::rowOfSoMany);
        Due.sentence("LAWS forbid to have in a set all numbers of a CLASH (ROW)", TermsEdgeTest::greatestWithoutRows);
        Due.sentence("LAWS forbid to have in a set all numbers of a CLASH (EQUATION)", TermsEdgeTest::wholeClashAlone);
        Due.sentence("x, x + d, .. , x + (k - 1) d, all unlike", TermsEdgeTest::rowOfUnlikeOnes);
        Due.sentence("of sort 0: d above 0; told as (x, x + d, 0, 0)", TermsEdgeTest::rowsGoOn);
        Due.sentence("x may be y, unless the LAW is of unlike ones: then x, y, z are all unlike",
            TermsEdgeTest::twoMayBeOne);
        Due.sentence("x + y = z, x y = z: (x, y, z, 0)", TermsEdgeTest::sumAtTheEnd);
        Due.sentence("x <= y, u <= v, not x = u and y = v", TermsEdgeTest::apartPairs);
        Due.sentence("Sums as numbers: of sort 0 they may be above n", TermsEdgeTest::apartAboveN);
        Due.sentence("a, b, c from -9 to 9", TermsEdgeTest::equationNumbers);
        Due.sentence("two at least not 0", TermsEdgeTest::equationOfTwo);
        Due.sentence("0 for one whose number is 0: that is not in it", TermsEdgeTest::notInTheEquation);
        Due.sentence("Of unlike ones: all that are in it are unlike", TermsEdgeTest::equationOfUnlikeOnes);
        Due.sentence("A set KEEPS the LAWS, if it has no CLASH of any", TermsEdgeTest::noClashOfAny);
        Due.sentence("The first CLASH: of the least LAW, then by its four numbers in turn", TermsEdgeTest::firstClash);
        Due.end("TermsEdgeTest");
    }
}
