/** The edges that "Terms" names, of SEARCHES, TURNS and calls that throw: a test for each sentence. */
public final class CasesEdgeTest {
    private CasesEdgeTest() {
    }

    /** A search by so many LOOKS. */
    private interface Search {
        int by(int looks);
    }

    /** Any two unlike numbers clash, so that each set listed has one number alone: n up to 9 of sort 1, sort 2. */
    private static SumBench singles(int sort, int n) {
        int zero = sort == 1 ? n : 3;
        return Due.bench(sort, n, 4, zero, zero, 0, true);
    }

    private static SumBench listedSingles(int sort, int n) {
        SumBench x = singles(sort, n);
        Due.is("one number alone", x.greatest(0, 50000), 1);
        Due.is("each number alone", x.list(50000), x.look(2));
        return x;
    }

    private static void eachIsOneLook() {
        SumBench x = Due.withSet(0, 3);
        x.greatest(0, 50000);
        Due.is("the beginning, three that come in, three left", x.look(5), 7);
        x.count(50000);
        Due.is("1 + 2 + 4 + 8", x.look(5), 15);
        x.list(50000);
        Due.is("GREATEST, and as many for LIST", x.look(5), 14);
        x.colours(8, 50000);
        Due.is("the beginning and three numbers", x.look(5), 4);
        x.forced(8, 50000);
        Due.is("2 + 3 + 4", x.look(5), 9);
    }

    /** By just the LOOKS that it needs a search is not SPENT; by one fewer it is. */
    private static void needs(String call, Search search, int looks, int answer, int spent) {
        Due.is(call + " by " + looks, search.by(looks), answer);
        Due.is(call + " by " + (looks - 1), search.by(looks - 1), spent);
        Due.is(call + " by " + (looks + 1), search.by(looks + 1), answer);
    }

    private static void oneMoreThanTold() {
        SumBench x = Due.withSet(0, 3);
        needs("greatest", looks -> x.greatest(0, looks), 7, 3, -4);
        needs("count", x::count, 15, 8, -1);
        needs("list", x::list, 7, 1, -1);
        needs("colours", looks -> x.colours(2, looks), 4, 0, 2);
        needs("forced", looks -> x.forced(2, looks), 4, 4, -1);
        SumBench none = Due.bench(0, 1, 2, 0);
        needs("greatest", looks -> none.greatest(0, looks), 2, 0, -1);
        needs("count", none::count, 2, 1, -1);
        needs("list", none::list, 2, 1, -1);
        Due.is("colours, none to look at behind the beginning", none.colours(2, 1), 1);
        Due.is("forced, likewise", none.forced(2, 1), 1);
    }

    private static void leftIfNotMore() {
        SumBench x = Due.bench(0, 2, 1, 0);
        Due.is("1 is the best, 2 would be as many", x.greatest(0, 50), 1);
        Due.same("the best", Due.set(x, 0), "(1)");
        Due.is("the beginning, 1, 1 alone, and that without 1, which is left", x.look(5), 4);
        SumBench more = Due.bench(0, 3, 4, 1, -3, 0, true);
        more.law(4, 1, -2, 0, true);
        Due.is("1 clashes with 2 and with 3", more.greatest(0, 50), 2);
        Due.same("one more than the best so far is no CASE to leave", Due.set(more, 0), "(2 3)");
        Due.is("four to 1 alone, three to 2 3, and two that are left", more.look(5), 9);
    }

    private static void noneAtFirst() {
        SumBench x = Due.bench(1, 2, 4, 1, -1, 0, false);
        Due.put(x, 0, 0, 1);
        Due.is("no number comes in: the best has none", x.greatest(0, 3), 0);
        Due.same("the best", Due.set(x, 0), "()");
        Due.is("the beginning, and twice one that stays out", x.look(5), 3);
    }

    private static void firstComesIn() {
        SumBench x = Due.bench(0, 3, 0, 3);
        Due.is("the first that is found, by LOOKS to there alone", x.greatest(0, 4), -3);
        Due.same("1 2 is found ahead of 1 3 and 2 3", Due.set(x, 0), "(1 2)");
        x.greatest(0, 50);
        Due.same("and stays", Due.set(x, 0), "(1 2)");
    }

    private static void theGreatestSet() {
        SumBench x = Due.bench(0, 5, 0, 3);
        Due.is("4 of 5 without three in a row", x.greatest(0, 500), 4);
        Due.same("the only one", Due.set(x, 0), "(1 2 4 5)");
        SumBench late = Due.bench(0, 4, 1, 0);
        late.law(4, 1, -3, 0, true);
        Due.is("without sums, and not 1 with 3", late.greatest(0, 500), 2);
        Due.same("1 4 is ahead of 2 3", Due.set(late, 0), "(1 4)");
    }

    private static void leftIfFewer() {
        SumBench x = Due.bench(0, 2, 1, 0);
        Due.is("1 alone and 2 alone", x.list(50), 2);
        Due.is("4 LOOKS, and then the beginning, 1, 1 alone, without 1, 2 alone, none", x.look(5), 10);
    }

    private static void looksOfItsOwn() {
        SumBench x = Due.bench(0, 2, 1, 0);
        int[] answers = {-1, -1, -1, -1, -1, 2, 2};
        int[] looked = {1, 2, 3, 8, 9, 10, 10};
        for (int looks = 1; looks <= answers.length; looks++) {
            Due.is("list(" + looks + ")", x.list(looks), answers[looks - 1]);
            Due.is("LOOKS of both by " + looks, x.look(5), looked[looks - 1]);
        }
    }

    private static void eachOfThatSize() {
        SumBench x = Due.bench(0, 3, 0, 3);
        Due.is("list", x.list(500), 3);
        StringBuilder all = new StringBuilder();
        for (int i = 0; i < 3; i++) {
            Due.is("of that size", x.listed(0, i), 2);
            all.append(Due.set(x, 0));
        }
        Due.same("in ORDER", all.toString(), "(1 2)(1 3)(2 3)");
        SumBench none = Due.bench(1, 2, 4, 1, -1, 0, false);
        Due.is("the empty set is one", none.list(3), 1);
        Due.put(none, 0, 1);
        Due.is("of no number", none.listed(0, 0), 0);
        Due.same("the empty set", Due.set(none, 0), "()");
        SumBench all60 = Due.withSet(0, 60);
        Due.is("all numbers", all60.list(50000), 1);
        Due.is("of all 60", all60.listed(0, 0), 60);
    }

    private static void leastNumberFirst() {
        SumBench x = Due.bench(0, 4, 1, 0);
        Due.is("colours", x.colours(2, 50), 0);
        Due.same("1 and 4, 2 and 3", Due.colouring(x), "0110");
        Due.is("the beginning, 0, 01, 010, 011, 0110", x.look(5), 6);
        SumBench rests = Due.bench(1, 3, 0, 3);
        Due.is("colours", rests.colours(2, 50), 0);
        Due.same("0 and 1, then 2", Due.colouring(rests), "001");
    }

    private static void asManyAsTold() {
        SumBench x = singles(1, 8);
        Due.is("7 for 8 numbers", x.colours(7, 50), 1);
        Due.is("the beginning and 7 numbers: each has but the next new one", x.look(5), 8);
        Due.is("8 for 8 numbers", x.colours(8, 50), 0);
        Due.same("one each", Due.colouring(x), "01234567");
        Due.is("the beginning and 8 numbers", x.look(5), 9);
        SumBench nine = singles(1, 9);
        Due.is("8 for 9 numbers", nine.colours(8, 50), 1);
        Due.is("the beginning and 8 numbers", nine.look(5), 9);
    }

    private static void hadOrNextNew() {
        SumBench x = Due.bench(0, 5, 1, 0);
        Due.is("1 .. 5 in two", x.colours(2, 50), 1);
        Due.is("1 has but COLOUR 0: 6 LOOKS", x.look(5), 6);
        Due.is("1 .. 5 in three", x.colours(3, 50), 0);
        Due.same("4 has the third, then 5 one that is had", Due.colouring(x), "01020");
        SumBench free = Due.withSet(0, 3);
        Due.is("without LAWS", free.colours(8, 50), 0);
        Due.same("all have the first", Due.colouring(free), "000");
        SumBench pairs = singles(1, 9);
        Due.is("each rest wants its own", pairs.colours(8, 50), 1);
        pairs.drop();
        // Any three rests clash: 1 + 1 + 2 + 4 + 9 + 15 + 15 ways to put none to six of them in three pairs.
        pairs.law(4, 9, 9, 9, true);
        Due.is("three pairs are too few for 9", pairs.colours(3, 50), 1);
        Due.is("COLOURS of the search ahead are not had", pairs.look(5), 47);
        Due.is("five are enough", pairs.colours(5, 50), 0);
        Due.same("so", Due.colouring(pairs), "001122334");
    }

    private static void thatColourKeeps() {
        SumBench x = Due.bench(0, 20, 2, 0);
        Due.is("1 1 1 in any COLOUR", x.colours(8, 50), 1);
        SumBench unlike = Due.bench(0, 6, 2, 0, 0, 0, true);
        Due.is("2 3 6 alone", unlike.colours(2, 50), 0);
        Due.same("6 has another", Due.colouring(unlike), "000001");
    }

    private static void theBeginningIsOne() {
        SumBench x = Due.bench(0, 20, 2, 0);
        x.colours(8, 50);
        Due.is("it alone", x.look(5), 1);
        SumBench free = Due.withSet(0, 1);
        Due.is("one number by one LOOK", free.colours(1, 1), 2);
        Due.is("one number by two", free.colours(1, 2), 0);
    }

    private static void noNumberToComeEndsIt() {
        SumBench x = Due.withSet(0, 60);
        Due.is("60 numbers by 61 LOOKS", x.colours(8, 61), 0);
        Due.is("no other is looked at", x.look(5), 61);
        Due.is("60 numbers by 60", x.colours(8, 60), 2);
    }

    private static void turnOfNumbers() {
        SumBench x = Due.bench(0, 3, 0, 3);
        x.list(50);
        Due.same("1 2 to 2 3, 1 3 stays", Due.kinds(x, 1), "(0 2 1)(1 1 2)");
        SumBench all = Due.withSet(0, 60);
        all.list(50000);
        Due.same("all 60 stay", Due.kinds(all, 1), "(0 1 2)");
        SumBench two = Due.bench(0, 2, 1, 0);
        two.list(50);
        Due.same("1 to 2", Due.kinds(two, 1), "(0 2 1)");
    }

    private static void turnToLess() {
        Due.same("by 8: 0 and 4 stay", Due.kinds(listedSingles(1, 8), 1), "(0 1 2)(1 2 1)(2 2 1)(3 2 1)(4 1 2)");
        Due.same("by 7: 0 stays", Due.kinds(listedSingles(1, 7), 1), "(0 1 2)(1 2 1)(2 2 1)(3 2 1)");
    }

    private static void turnByOne() {
        for (int n : new int[] {2, 7, 8, 9}) {
            Due.same("all rests by " + n + ", the last to 0", Due.kinds(listedSingles(1, n), 2), "(0 " + n + " 1)");
        }
    }

    private static void turnByFactors() {
        Due.same("by 5: 1 2 3 4", Due.kinds(listedSingles(1, 5), 4), "(0 1 4)(1 4 1)");
        Due.same("by 6: 1 5", Due.kinds(listedSingles(1, 6), 4), "(0 1 2)(1 2 1)(2 2 1)(3 1 2)");
        Due.same("by 8: 1 3 5 7", Due.kinds(listedSingles(1, 8), 4), "(0 1 4)(1 4 1)(2 2 2)(4 1 4)");
        Due.same("by 9: 1 2 4 5 7 8", Due.kinds(listedSingles(1, 9), 4), "(0 1 6)(1 6 1)(3 2 3)");
        SumBench all = Due.withSet(1, 60);
        all.list(50000);
        Due.same("by 60: 16 factors", Due.kinds(all, 4), "(0 1 16)");
        all.ground(1, 59);
        all.list(50000);
        Due.same("by 59: 58 factors", Due.kinds(all, 4), "(0 1 58)");
    }

    private static void turnsOfRows() {
        SumBench x = listedSingles(2, 2);
        Due.same("x to - x: 0 stays", Due.kinds(x, 1), "(0 1 2)(1 2 1)(3 2 1)(4 2 1)(5 2 1)");
        Due.same("x to x + y", Due.kinds(x, 2), "(0 9 1)");
        Due.same("both", Due.kinds(x, 3), "(0 9 2)");
        Due.same("of one rest", Due.kinds(listedSingles(2, 1), 1), "(0 1 2)(1 2 1)");
        Due.same("of three rests", Due.kinds(listedSingles(2, 3), 3), "(0 27 2)");
        Due.is("of three rests, x to - x", listedSingles(2, 3).kinds(1), 14);
        SumBench corners = Due.bench(2, 2, 3, 0);
        Due.is("three corners, not in a row", corners.list(5000), 72);
        Due.is("9 are moved", corners.kinds(2), 8);
        Due.is("18 are moved and turned", corners.kinds(3), 4);
        Due.is("none is its own - x", corners.kinds(1), 36);
    }

    private static void othersAreNothing() {
        SumBench x = Due.bench(0, 3, 0, 3);
        x.list(50);
        for (int turns : new int[] {2, 4, 6}) {
            Due.same("of sort 0, " + turns, Due.kinds(x, turns), "(0 1 1)(1 1 1)(2 1 1)");
            Due.same("of sort 0, 1 with " + turns, Due.kinds(x, turns + 1), "(0 2 1)(1 1 2)");
        }
        SumBench rows = listedSingles(2, 1);
        Due.same("of sort 2, 4", Due.kinds(rows, 4), "(0 1 1)(1 1 1)(2 1 1)");
        Due.same("of sort 2, 5", Due.kinds(rows, 5), "(0 1 2)(1 2 1)");
        Due.same("of sort 2, 6", Due.kinds(rows, 6), "(0 3 1)");
        Due.same("of sort 2, 7", Due.kinds(rows, 7), "(0 3 2)");
    }

    private static void allMadeByThem() {
        int[][] many = {{60, 1, 2, 60, 120, 16, 16, 960, 960}, {3, 1, 2, 3, 6, 2, 2, 6, 6},
            {5, 1, 2, 5, 10, 4, 4, 20, 20}};
        for (int[] row : many) {
            SumBench x = Due.withSet(1, row[0]);
            x.list(50000);
            for (int turns = 0; turns < 8; turns++) {
                Due.is("TURNS " + turns + " of rests by " + row[0], x.kind(turns, 0, 2), row[turns + 1]);
            }
        }
        int[] rows = {1, 2, 27, 54, 1, 2, 27, 54};
        SumBench x = Due.withSet(2, 3);
        x.list(50000);
        for (int turns = 0; turns < 8; turns++) {
            Due.is("TURNS " + turns + " of three rests", x.kind(turns, 0, 2), rows[turns]);
        }
        Due.same("one rest by 7 is moved, and turned about itself", Due.kinds(listedSingles(1, 7), 3), "(0 7 2)");
    }

    private static void listedAndAlike() {
        SumBench x = Due.bench(0, 4, 1, 0);
        x.list(500);
        Due.same("1 3 would be 2 4, which is not listed", Due.kinds(x, 1), "(0 1 1)(1 1 2)(2 1 2)(3 1 1)");
        Due.same("without TURNS each is by itself", Due.kinds(x, 0), "(0 1 1)(1 1 1)(2 1 1)(3 1 1)");
    }

    private static void byTheirFirstOnes() {
        SumBench x = Due.bench(0, 4, 0, 3);
        x.law(4, 1, -4, 0, true);
        Due.is("1 2, 1 3, 2 3, 2 4, 3 4 and no 1 4, but 2 3 4 is a row", x.list(500), 5);
        Due.same("1 2 with 3 4, 1 3 with 2 4, 2 3", Due.kinds(x, 1), "(0 2 1)(1 2 1)(2 1 2)");
    }

    private static void throwing(String call, Twins.Act act, String want) {
        Twins.changes(call, act, want);
        Twins.changes(call + " of rests", Twins::laidOfRests, act, want);
    }

    /** One call of each that throws, for each exception. */
    private static void throwsAndChangesNothing() {
        throwing("sheet, no set", x -> x.sheet(8, 2), Twins.NO_SET);
        throwing("sheet, no width", x -> x.sheet(0, 4), Twins.NOT_ALLOWED);
        throwing("put on", x -> Due.bit(x.put(8, 4, true)), Twins.NO_SET);
        throwing("put off", x -> Due.bit(x.put(-1, 1, false)), Twins.NO_SET);
        throwing("has", x -> Due.bit(x.has(8, 1)), Twins.NO_SET);
        throwing("size", x -> x.size(8), Twins.NO_SET);
        throwing("at, no set", x -> x.at(8, 0), Twins.NO_SET);
        throwing("at, no number", x -> x.at(0, 3), Twins.NONE_SUCH);
        throwing("clash", x -> x.clash(8), Twins.NO_SET);
        throwing("witness", x -> x.witness(4), Twins.NONE_SUCH);
        throwing("room", x -> x.room(8), Twins.NO_SET);
        throwing("greatest, no set", x -> x.greatest(8, 50), Twins.NO_SET);
        throwing("greatest, no looks", x -> x.greatest(0, 0), Twins.NOT_ALLOWED);
        throwing("list", x -> x.list(0), Twins.NOT_ALLOWED);
        throwing("listed", x -> x.listed(8, 0), Twins.NO_SET);
        throwing("kinds", x -> x.kinds(8), Twins.NOT_ALLOWED);
        throwing("kind", x -> x.kind(8, 0, 0), Twins.NOT_ALLOWED);
        throwing("count", x -> x.count(0), Twins.NOT_ALLOWED);
        throwing("colours, so many", x -> x.colours(9, 50), Twins.NOT_ALLOWED);
        throwing("colours, no looks", x -> x.colours(2, 0), Twins.NOT_ALLOWED);
        Twins.changes("forced, so many", x -> x.forced(9, 50), Twins.NOT_ALLOWED);
        Twins.changes("forced, no looks", x -> x.forced(2, 0), Twins.NOT_ALLOWED);
        throwing("sums, no first", x -> x.sums(8, 1, 0, 2), Twins.NO_SET);
        throwing("sums, no second", x -> x.sums(1, 8, 0, 2), Twins.NO_SET);
        throwing("sums, none to", x -> x.sums(1, 2, 0, 8), Twins.NO_SET);
        throwing("energy", x -> x.energy(8), Twins.NO_SET);
        throwing("order", x -> x.order(8), Twins.NO_SET);
        throwing("keep, no set", x -> x.keep(8, 1), Twins.NO_SET);
        throwing("keep, no seed", x -> x.keep(0, 65536), Twins.NOT_ALLOWED);
    }

    /** Call 512 is the last that is promised: it answers as the first of its like. */
    private static void callsOfOneObject() {
        SumBench x = new SumBench();
        x.ground(0, 14);
        x.law(0, 3, 0, 0, false);
        for (int call = 3; call < 512; call += 5) {
            Due.is("greatest, call " + call, x.greatest(call % 8, 50000), 8);
            Due.is("list, call " + (call + 1), x.list(50000), 1);
            Due.is("feed, call " + (call + 2), x.feed(1, 2, 3, 4, 5), call < 126 ? 4 * (call + 2) : -1);
            Due.is("count, call " + (call + 3), x.count(50), -1);
            Due.is("colours, call " + (call + 4), x.colours(2, 50000), 1);
        }
    }

    private static void searches() {
        Due.sentence("each is one LOOK", CasesEdgeTest::eachIsOneLook);
        Due.sentence("where one more would be looked at than told, it is SPENT", CasesEdgeTest::oneMoreThanTold);
        Due.sentence("A CASE is left, if those in and all still to come are not more than the best so far",
            CasesEdgeTest::leftIfNotMore);
        Due.sentence("the best so far (at first: none, -1)", CasesEdgeTest::noneAtFirst);
        Due.sentence("Else first the next number comes in, then it stays out", CasesEdgeTest::firstComesIn);
        Due.sentence("the best is the greatest set that KEEPS them, the first in ORDER of such",
            CasesEdgeTest::theGreatestSet);
        Due.sentence("left only, if those in and all still to come are fewer than a GREATEST has",
            CasesEdgeTest::leftIfFewer);
        Due.sentence("a GREATEST is found first, by LOOKS of its own", CasesEdgeTest::looksOfItsOwn);
        Due.sentence("each set of that size is listed, in ORDER", CasesEdgeTest::eachOfThatSize);
        Due.sentence("COLOURS: numbers, the least first", CasesEdgeTest::leastNumberFirst);
        Due.sentence("a COLOUR 0, 1, .. , as many as told", CasesEdgeTest::asManyAsTold);
        Due.sentence("each that is had by one ahead or is the next new one", CasesEdgeTest::hadOrNextNew);
        Due.sentence("if all of that COLOUR KEEP the LAWS with it", CasesEdgeTest::thatColourKeeps);
        Due.sentence("a CASE; the beginning is one", CasesEdgeTest::theBeginningIsOne);
        Due.sentence("the first CASE with no number to come ends it", CasesEdgeTest::noNumberToComeEndsIt);
    }

    private static void turns() {
        Due.sentence("sort 0: 1: x to n + 1 - x", CasesEdgeTest::turnOfNumbers);
        Due.sentence("sort 1: 1: x to - x", CasesEdgeTest::turnToLess);
        Due.sentence("sort 1: 2: x to x + 1", CasesEdgeTest::turnByOne);
        Due.sentence("sort 1: 4: x to a x, a without a common factor with n", CasesEdgeTest::turnByFactors);
        Due.sentence("sort 2: 1: x to - x; 2: x to x + y for each y", CasesEdgeTest::turnsOfRows);
        Due.sentence("TURNS (Others: nothing.)", CasesEdgeTest::othersAreNothing);
        Due.sentence("TURNS with all that are made by them", CasesEdgeTest::allMadeByThem);
        Due.sentence("Sets listed are ALIKE, if a TURN makes one the other", CasesEdgeTest::listedAndAlike);
        Due.sentence("KINDS: all that are ALIKE, by their first ones in ORDER", CasesEdgeTest::byTheirFirstOnes);
    }

    public static void main(String[] args) {
        searches();
        turns();
        Due.sentence("A call that throws changes nothing", CasesEdgeTest::throwsAndChangesNothing);
        Due.sentence("An object is used for at most 512 calls", CasesEdgeTest::callsOfOneObject);
        Due.end("CasesEdgeTest");
    }
}
