/** The edges that promises 15 to 20 name: a test for each sentence. */
public final class SearchEdgeTest {
    private static final int LEAST = Integer.MIN_VALUE;
    private static final int MOST = Integer.MAX_VALUE;

    private SearchEdgeTest() {
    }

    // ---- 15: greatest

    private static void bestThen() {
        Twins.changes("greatest(4, 5000)", x -> x.greatest(4, 5000), "3", "looks", "set 4");
        Twins.changes("greatest(7, 50000)", x -> x.greatest(7, 50000), "3", "looks", "set 7");
        SumBench x = Twins.laid();
        x.greatest(3, 5000);
        Due.same("of a set that had all", Due.set(x, 3), "(1 2 4)");
        SumBench none = Due.bench(0, 1, 2, 0);
        Due.put(none, 0, 1);
        Due.is("the empty set is the best", none.greatest(0, 2), 0);
        Due.same("of a set that had 1", Due.set(none, 0), "()");
    }

    /** The 7th LOOK is at 1 2 4 with none to come; by 8 it is SPENT as well. */
    private static void lessItsSize() {
        for (int looks : new int[] {7, 8}) {
            Twins.changes("greatest(3, " + looks + ")", x -> x.greatest(3, looks), "-4", "looks", "set 3");
        }
        SumBench x = Twins.laid();
        x.greatest(3, 7);
        Due.same("the best so far", Due.set(x, 3), "(1 2 4)");
        SumBench all = new SumBench();
        all.ground(0, 60);
        Due.is("all 60, but SPENT", all.greatest(0, 120), -61);
        Due.is("all 60 in the set", all.size(0), 60);
        Due.is("all 60", all.greatest(0, 121), 60);
    }

    private static void noBestYet() {
        for (int looks : new int[] {1, 2, 6}) {
            Twins.changes("greatest(3, " + looks + ")", x -> x.greatest(3, looks), "-1", "looks");
        }
        SumBench all = new SumBench();
        all.ground(0, 60);
        Due.is("no best of 60 by 60 LOOKS", all.greatest(0, 60), -1);
        Due.is("the set stays", all.size(0), 0);
        Due.is("one by 61", all.greatest(0, 61), -61);
    }

    private interface Search {
        long by(SumBench x, int looks);
    }

    private static void looks1To50000() {
        Search[] searches = {(x, looks) -> x.greatest(0, looks), (x, looks) -> x.list(looks),
            (x, looks) -> x.count(looks), (x, looks) -> x.colours(2, looks), (x, looks) -> x.forced(2, looks)};
        String[] byOne = {"-1", "-1", "-1", "2", "-1"};
        String[] byAll = {"3", "10", "32", "0", "7"};
        for (int i = 0; i < searches.length; i++) {
            Search search = searches[i];
            for (int looks : new int[] {0, -1, 50001, LEAST, MOST}) {
                Twins.changes("search " + i + " by " + looks, x -> search.by(x, looks), Twins.NOT_ALLOWED);
            }
            Due.same("search " + i + " by 1", Due.outcome(() -> search.by(Twins.laid(), 1)), byOne[i]);
            Due.same("search " + i + " by 50000", Due.outcome(() -> search.by(Twins.laid(), 50000)), byAll[i]);
        }
        SumBench free = new SumBench();
        Due.is("20 numbers have more sets than LOOKS", free.count(50000), -1);
        Due.is("all 50000 were used", free.look(5), 50000);
    }

    // ---- 16: list

    private static void eachOfBoth() {
        SumBench x = Twins.laid();
        x.greatest(0, 5000);
        int first = x.look(5);
        x.list(5000);
        int second = x.look(5) - first;
        Due.is("LIST needs more than GREATEST", second > first, true);
        Due.is("each by just so many as LIST needs", x.list(second), 10);
        Due.is("look(5)", x.look(5), first + second);
    }

    private static void howManyAreListed() {
        Twins.changes("list again", x -> x.list(5000), "10", "looks");
        Twins.changes("list of other laws", x -> x.drop() == 2 ? x.list(5000) : 9, "1", "laws", "listing", "looks");
        SumBench none = Due.bench(0, 1, 2, 0);
        Due.is("the empty set alone", none.list(2), 1);
        Due.is("look(4)", none.look(4), 1);
    }

    private static void spent() {
        SumBench x = Twins.laid();
        x.greatest(0, 5000);
        int first = x.look(5);
        x.list(5000);
        int second = x.look(5) - first;
        Twins.changes("GREATEST is SPENT", y -> y.list(first - 1), "-1", "listing", "looks");
        Twins.changes("LIST is SPENT", y -> y.list(second - 1), "-1", "listing", "looks");
    }

    /** One of each x and - x, and all sums unlike. */
    private static SumBench with300() {
        SumBench x = Due.bench(1, 18, 4, 1, 1, 0, true);
        x.law(3, 0, 0, 0, false);
        return x;
    }

    private static SumBench with301() {
        SumBench x = Due.bench(0, 20, 4, -1, -2, 1, false);
        x.law(3, 0, 0, 0, false);
        x.law(2, 0, 0, 0, false);
        return x;
    }

    private static void moreThan300() {
        SumBench x = with300();
        Due.is("300", x.list(50000), 300);
        Due.is("look(4)", x.look(4), 300);
        Due.is("the first", x.listed(0, 0), 4);
        Due.is("the last", x.listed(0, 299), 4);
        Due.is("none behind it", x.listed(0, 300), -1);
        Due.is("kinds of 300", x.kinds(0), 300);
        Due.is("the last kind", x.kind(0, 299, 0), 299);
        Due.is("301", with301().list(50000), -2);
    }

    /** Counted by SlowBench: GREATEST takes 5627 LOOKS, and LIST comes to the 301st set with its LOOK 6985. */
    private static void atThe301st() {
        SumBench x = with301();
        Due.is("by more", x.list(50000), -2);
        Due.is("it ends there", x.look(5), 5627 + 6985);
        Due.is("just to the 301st", x.list(6985), -2);
        Due.is("one fewer", x.list(6984), -1);
        Due.is("all were used", x.look(5), 5627 + 6984);
    }

    private static SumBench listedAhead(SumBench x) {
        x.drop();
        Due.is("all numbers are listed", x.list(5000), 1);
        x.law(4, -1, -2, 1, false);
        x.law(3, 0, 0, 0, false);
        x.law(2, 0, 0, 0, false);
        return x;
    }

    private static void nothingIsListedThen() {
        for (int looks : new int[] {1, 5627, 6984, 6985, 50000}) {
            SumBench x = listedAhead(with301());
            Due.is("list(" + looks + ")", x.list(looks), looks < 6985 ? -1 : -2);
            Due.is("look(4)", x.look(4), 0);
            Due.put(x, 0, 20);
            Due.is("listed", x.listed(0, 0), -1);
            Due.same("the set stays", Due.set(x, 0), "(20)");
            Due.is("kinds", x.kinds(0), 0);
            Due.is("kind", x.kind(0, 0, 0), -1);
            x.drop();
            Due.is("the next list is whole", x.list(5000), 1);
        }
    }

    // ---- 17: listed

    private static void numberIOfThose() {
        Twins.changes("listed(2, 0)", x -> x.listed(2, 0), "3", "set 2");
        Twins.changes("listed(0, 9)", x -> x.listed(0, 9), "3", "set 0");
        SumBench x = Twins.laid();
        x.listed(0, 0);
        x.listed(7, 9);
        Due.same("the first and the last", Due.set(x, 0) + Due.set(x, 7), "(1 2 4)(3 5 6)");
        x.drop();
        x.law(3, 0, 0, 0, false);
        x.put(0, 1, false);
        x.listed(0, 0);
        Due.same("a set or laws that change are not those listed", Due.set(x, 0), "(1 2 4)");
        SumBench none = Due.bench(0, 1, 2, 0);
        none.list(2);
        Due.put(none, 3, 1);
        Due.is("the empty set", none.listed(3, 0), 0);
        Due.same("set 3", Due.set(none, 3), "()");
    }

    private static void noneSuchListed() {
        for (int i : new int[] {-1, 10, 11, 299, 300, LEAST, MOST}) {
            Twins.changes("listed(3, " + i + ")", x -> x.listed(3, i), "-1");
        }
        Due.is("of a new object", new SumBench().listed(0, 0), -1);
    }

    // ---- 18 and 19: kinds

    private static void bits0To7() {
        int[] want = {8, 4, 2, 1, 2, 2, 1, 1};
        for (int i = 0; i < 8; i++) {
            int turns = i;
            Twins.changes("kinds(" + turns + ")", Twins::laidOfRests, x -> x.kinds(turns), "" + want[i]);
        }
    }

    private static void otherBits() {
        for (int turns : new int[] {-1, 8, 9, 16, LEAST, MOST}) {
            Twins.changes("kinds(" + turns + ")", x -> x.kinds(turns), Twins.NOT_ALLOWED);
            Twins.changes("kind(" + turns + ", 0, 0)", x -> x.kind(turns, 0, 0), Twins.NOT_ALLOWED);
            Due.same("of a new object", Due.outcome(() -> new SumBench().kinds(turns)), Twins.NOT_ALLOWED);
        }
    }

    private static void firstManyStill() {
        SumBench x = Twins.laid();
        // 1 2 4 and 3 5 6; 1 2 5 and 2 5 6; 1 2 6; 1 3 6 and 1 4 6; 2 3 6; 2 4 5; 3 4 6.
        Due.same("mirrored", Due.kinds(x, 1), "(0 2 1)(1 2 1)(2 1 1)(3 2 1)(5 1 1)(6 1 1)(8 1 1)");
        SumBench mirror = Due.bench(0, 3, 0, 3);
        mirror.list(50);
        Due.is("1 3 stays as it is, and by its mirror", mirror.kind(1, 1, 2), 2);
        for (int what = 0; what < 3; what++) {
            int asked = what;
            Twins.changes("kind(1, 0, " + what + ")", y -> y.kind(1, 0, asked), "" + new int[] {0, 2, 1}[what]);
        }
    }

    private static void noSuchKind() {
        for (int i : new int[] {-1, 7, 10, 299, 300, LEAST, MOST}) {
            for (int what = 0; what < 3; what++) {
                int asked = what;
                Twins.changes("kind(1, " + i + ", " + what + ")", x -> x.kind(1, i, asked), "-1");
            }
        }
        Due.is("the last", Twins.laid().kind(1, 6, 0), 8);
        Due.is("nothing is listed", new SumBench().kind(0, 0, 0), -1);
    }

    private static void anotherWhat() {
        for (int what : new int[] {-1, 3, 4, LEAST, MOST}) {
            Twins.changes("kind(1, 0, " + what + ")", x -> x.kind(1, 0, what), "-1");
        }
    }

    // ---- 20: count

    private static void theEmptyOneToo() {
        Due.is("the empty one alone", Due.bench(1, 2, 4, 1, -1, 0, false).count(50), 1);
        SumBench one = new SumBench();
        one.ground(0, 1);
        Due.is("that and 1", one.count(50), 2);
        Twins.changes("count", x -> x.count(50000), "32", "looks");
    }

    private static void noCaseIsLeft() {
        SumBench x = new SumBench();
        x.ground(0, 14);
        Due.is("all 2 to the 14th", x.count(32767), 16384);
        Due.is("look(5)", x.look(5), 32767);
        SumBench none = Due.bench(1, 3, 4, 1, -1, 0, false);
        Due.is("where no number comes in", none.count(4), 1);
        Due.is("look(5)", none.look(5), 4);
    }

    private static void countSpent() {
        SumBench x = new SumBench();
        x.ground(0, 14);
        Due.is("one fewer than it needs", x.count(32766), -1);
        Due.is("look(5)", x.look(5), 32766);
        Twins.changes("count(1)", y -> y.count(1), "-1", "looks");
        Twins.changes("count(76)", y -> y.count(76), "-1", "looks");
        Twins.changes("count(77)", y -> y.count(77), "32", "looks");
    }

    private static void greatestAndList() {
        Due.sentence("15: SET k is the best then: its size", SearchEdgeTest::bestThen);
        Due.sentence("15: -1 less its size, if it was SPENT", SearchEdgeTest::lessItsSize);
        Due.sentence("15: SET k stays, if there was no best yet: -1 less 0", SearchEdgeTest::noBestYet);
        Due.sentence("15: IllegalArgumentException: LOOKS are not 1 to 50000 (here and below)",
            SearchEdgeTest::looks1To50000);
        Due.sentence("16: LIST, each of both with so many LOOKS", SearchEdgeTest::eachOfBoth);
        Due.sentence("16: how many sets are listed", SearchEdgeTest::howManyAreListed);
        Due.sentence("16: NONE: SPENT", SearchEdgeTest::spent);
        Due.sentence("16: -2: more than 300", SearchEdgeTest::moreThan300);
        Due.sentence("16: at the 301st", SearchEdgeTest::atThe301st);
        Due.sentence("16: nothing is listed then, with both", SearchEdgeTest::nothingIsListedThen);
        Due.sentence("17: SET k is number i of those listed: its size", SearchEdgeTest::numberIOfThose);
        Due.sentence("17: NONE if there is none such", SearchEdgeTest::noneSuchListed);
    }

    private static void kindsAndCount() {
        Due.sentence("18: TURNS (bits 0 to 7)", SearchEdgeTest::bits0To7);
        Due.sentence("18: IllegalArgumentException: other bits", SearchEdgeTest::otherBits);
        Due.sentence("19: 0 the number of its first one in the list, 1 how many are listed of it, 2 how many TURNS"
            + " leave that first one as it is", SearchEdgeTest::firstManyStill);
        Due.sentence("19: NONE without it", SearchEdgeTest::noSuchKind);
        Due.sentence("19: or for another what", SearchEdgeTest::anotherWhat);
        Due.sentence("20: How many sets KEEP the LAWS (the empty one, too)", SearchEdgeTest::theEmptyOneToo);
        Due.sentence("20: without leaving any CASE", SearchEdgeTest::noCaseIsLeft);
        Due.sentence("20: NONE if SPENT", SearchEdgeTest::countSpent);
    }

    public static void main(String[] args) {
        greatestAndList();
        kindsAndCount();
        Due.end("SearchEdgeTest");
    }
}
