/** Promises 15 to 20: greatest, list, listed, kinds, kind and count. */
public final class SearchTest {
    private static final int[] NO_LOOKS = {0, -1, 50001, Integer.MIN_VALUE, Integer.MAX_VALUE};
    private static final int[] NO_SETS = {-1, 8, Integer.MIN_VALUE, Integer.MAX_VALUE};

    private SearchTest() {
    }

    private static void promise15Known() {
        // The known greatest sizes of sets of 1 .. n without three in a row, and how many such sets there are.
        int[] sizes = {1, 2, 2, 3, 4, 4, 4, 4, 5, 5, 6, 6, 7, 8, 8, 8, 8, 8, 8, 9};
        int[] many = {1, 1, 3, 2, 1, 4, 10, 25, 4, 24, 7, 25, 6, 1, 4, 14, 43, 97, 220, 2};
        for (int n = 1; n <= sizes.length; n++) {
            SumBench x = Due.bench(0, n, 0, 3);
            Due.is("no three in a row of 1 .. " + n, x.greatest(0, 50000), sizes[n - 1]);
            Due.is("it keeps the law", x.clash(0), -1);
            Due.is("all without three in a row of 1 .. " + n, x.list(50000), many[n - 1]);
            x.listed(1, 0);
            Due.same("the first in order", Due.set(x, 0), Due.set(x, 1));
        }
        for (int n = 1; n <= 16; n++) {
            Due.is("no sum within 1 .. " + n, Due.bench(0, n, 1, 0).greatest(0, 50000), (n + 1) / 2);
        }
        int[] rulers = {1, 2, 4, 7, 12, 18};
        for (int marks = 1; marks <= rulers.length; marks++) {
            SumBench x = Due.bench(0, rulers[marks - 1], 3, 0);
            Due.is("a ruler of so many marks", x.greatest(0, 50000), marks);
        }
        SumBench x = Due.bench(1, 13, 3, 0);
        Due.is("a plane of 13", x.greatest(0, 50000), 4);
        Due.same("its first line", Due.set(x, 0), "(0 1 3 9)");
        x = Due.bench(0, 14, 0, 3);
        Due.is("greatest", x.greatest(0, 50000), 8);
        Due.same("the one of 14", Due.set(x, 0), "(1 2 4 5 10 11 13 14)");
    }

    /** Without LAWS, 1 .. 3: the beginning, 1, 1 2, 1 2 3 (the best), and three CASES that are left. */
    private static void promise15Spent() {
        SumBench x = new SumBench();
        x.ground(0, 3);
        int[] want = {-1, -1, -1, -4, -4, -4, 3, 3};
        for (int looks = 1; looks <= want.length; looks++) {
            x.sums(7, 7, 0, 2);
            Due.put(x, 2, 2);
            Due.is("greatest(2, " + looks + ")", x.greatest(2, looks), want[looks - 1]);
            Due.same("set 2", Due.set(x, 2), looks < 4 ? "(2)" : "(1 2 3)");
            Due.is("looks", x.look(5), Math.min(looks, 7));
        }
        SumBench none = Due.bench(0, 1, 2, 0);
        Due.put(none, 0, 1);
        Due.is("no best yet", none.greatest(0, 1), -1);
        Due.same("the set stays", Due.set(none, 0), "(1)");
        Due.is("the empty set is the best", none.greatest(0, 2), 0);
        Due.same("the set is empty", Due.set(none, 0), "()");
        SumBench sum = Due.bench(0, 2, 1, 0);
        Due.is("a best, but spent", sum.greatest(0, 3), -2);
        Due.same("the best so far", Due.set(sum, 0), "(1)");
        Due.is("a CASE that is left is a LOOK", sum.greatest(0, 4), 1);
        Due.is("looks", sum.look(5), 4);
        Due.is("most looks", sum.greatest(7, 50000), 1);
        Due.same("the last set", Due.set(sum, 7), "(1)");
        for (int looks : NO_LOOKS) {
            Due.throwsIt("greatest", IllegalArgumentException.class, () -> sum.greatest(0, looks));
        }
        for (int k : NO_SETS) {
            Due.throwsIt("greatest", IndexOutOfBoundsException.class, () -> sum.greatest(k, 5));
        }
        Due.is("looks stay", sum.look(5), 4);
    }

    private static void promises16And17List() {
        SumBench x = Due.bench(0, 5, 0, 3);
        x.law(1, 0, 0, 0, true);
        Due.is("list by two laws", x.list(500), 3);
        String[] want = {"(1 2 4)", "(1 2 5)", "(2 4 5)"};
        for (int i = 0; i < want.length; i++) {
            Due.is("listed", x.listed(3, i), 3);
            Due.same("number " + i, Due.set(x, 3), want[i]);
        }
        x.ground(0, 4);
        x.law(0, 3, 0, 0, false);
        Due.is("list", x.list(500), 2);
        Due.is("listed", x.listed(0, 0), 3);
        Due.same("the first", Due.set(x, 0), "(1 2 4)");
        Due.is("listed", x.listed(7, 1), 3);
        Due.same("the second", Due.set(x, 7), "(1 3 4)");
        for (int i : new int[] {-1, 2, 300, Integer.MIN_VALUE, Integer.MAX_VALUE}) {
            Due.is("listed, none such", x.listed(0, i), -1);
        }
        Due.same("the set stays", Due.set(x, 0), "(1 2 4)");
        for (int k : NO_SETS) {
            Due.throwsIt("listed", IndexOutOfBoundsException.class, () -> x.listed(k, 0));
            Due.throwsIt("listed, none such", IndexOutOfBoundsException.class, () -> x.listed(k, 9));
        }
        x.drop();
        x.law(1, 0, 0, 0, false);
        Due.is("the list stays with other laws", x.look(4), 2);
        for (int looks : NO_LOOKS) {
            Due.throwsIt("list", IllegalArgumentException.class, () -> x.list(looks));
        }
        Due.is("the list stays", x.look(4), 2);
    }

    /** Without LAWS, 1 .. 3: GREATEST takes 7 LOOKS and LIST as many. */
    private static void promise16Spent() {
        SumBench x = new SumBench();
        x.ground(0, 3);
        Due.is("list", x.list(7), 1);
        Due.is("looks", x.look(5), 14);
        Due.put(x, 0, 2);
        Due.is("the first search is spent", x.list(6), -1);
        Due.is("looks", x.look(5), 6);
        Due.is("nothing is listed", x.look(4) + x.kinds(0), 0);
        Due.is("nothing is listed", x.listed(0, 0), -1);
        Due.same("the set stays", Due.set(x, 0), "(2)");
        SumBench sum = Due.bench(0, 4, 1, 0);
        sum.greatest(0, 50000);
        int first = sum.look(5);
        Due.is("list", sum.list(50000), 4);
        int second = sum.look(5) - first;
        Due.is("the second search takes more", second > first, true);
        Due.is("each has its own looks", sum.list(second), 4);
        Due.is("the second is spent", sum.list(second - 1), -1);
        Due.is("looks of both", sum.look(5), first + second - 1);
        Due.is("nothing is listed", sum.look(4), 0);
    }

    private static void promise16Many() {
        SumBench x = new SumBench();
        x.ground(1, 19);
        x.law(4, 1, 1, -3, true);
        Due.is("just 300", x.list(50000), 300);
        Due.is("the last of them", x.listed(0, 299), x.listed(1, 0));
        Due.is("300", x.look(4), 300);
        Due.is("all by themselves", x.kinds(0), 300);
        SlowBench slow = new SlowBench();
        slow.ground(1, 19);
        slow.law(4, 1, 1, -3, true);
        slow.list(50000);
        for (int turns = 0; turns < 8; turns++) {
            Due.is("kinds of 300 by " + turns, x.kinds(turns), slow.kinds(turns));
            for (int what = 0; what < 3; what++) {
                Due.is("the third kind", x.kind(turns, 2, what), slow.kind(turns, 2, what));
            }
        }
        x.ground(1, 18);
        // One of each x and - x: 2 to the 8th, and with 20 numbers 2 to the 9th.
        x.law(4, 1, 1, 0, true);
        Due.is("256", x.list(50000), 256);
        x.ground(1, 20);
        slow.ground(1, 20);
        x.law(4, 1, 1, 0, true);
        slow.law(4, 1, 1, 0, true);
        Due.is("512 are too many", x.list(50000), -2);
        Due.is("at the 301st", slow.list(50000), -2);
        Due.is("looks till then", x.look(5), slow.look(5));
        Due.is("nothing is listed", x.look(4) + x.kinds(0), 0);
        x.greatest(0, 50000);
        int first = x.look(5);
        int second = slow.look(5) - first;
        Due.is("looks just enough for the 301st", x.list(Math.max(first, second)), -2);
        Due.is("one fewer", x.list(second - 1), -1);
        x.list(50000);
        x.drop();
        Due.is("the next list is not too long", x.list(50000), 1);
    }

    private static void promises18And19Kinds() {
        SumBench x = Due.bench(0, 4, 0, 3);
        x.list(500);
        Due.same("1 2 4 and 1 3 4", Due.kinds(x, 0), "(0 1 1)(1 1 1)");
        Due.same("mirrored", Due.kinds(x, 1), "(0 2 1)");
        Due.same("bits that are nothing", Due.kinds(x, 6), "(0 1 1)(1 1 1)");
        Due.same("all bits", Due.kinds(x, 7), "(0 2 1)");
        SumBench one = new SumBench();
        one.ground(0, 1);
        one.list(50);
        Due.same("of one number alone all TURNS are one", Due.kinds(one, 1), "(0 1 1)");
        SumBench plane = Due.bench(1, 7, 3, 0);
        Due.is("lists of 7", plane.list(5000), 14);
        Due.same("0 1 3 moved, 0 1 5 moved", Due.kinds(plane, 2), "(0 7 1)(1 7 1)");
        Due.same("and turned", Due.kinds(plane, 3), "(0 14 1)");
        Due.same("by all factors", Due.kinds(plane, 6), "(0 14 3)");
        Due.same("which has - x", Due.kinds(plane, 7), "(0 14 3)");
        Due.is("- x alone", plane.kinds(1), 7);
        SumBench two = new SumBench();
        two.ground(1, 2);
        two.list(50);
        Due.same("of two rests - x is x", Due.kinds(two, 1) + Due.kinds(two, 3) + Due.kinds(two, 7),
            "(0 1 1)(0 1 2)(0 1 2)");
        SumBench eight = new SumBench();
        eight.ground(1, 8);
        eight.list(50);
        Due.same("factors of 8: 1 3 5 7", Due.kinds(eight, 4) + Due.kinds(eight, 6) + Due.kinds(eight, 1),
            "(0 1 4)(0 1 32)(0 1 2)");
        SumBench caps = Due.bench(2, 2, 0, 3);
        Due.is("caps of the plane", caps.list(50000), 54);
        Due.is("each about one of 9 middles", caps.kinds(2), 6);
        Due.is("6 of them about 0", caps.kinds(1), 30);
        Due.same("the first of all", Due.kinds(caps, 3).substring(0, 8), "(0 9 2)(");
        Due.is("as without 4", caps.kinds(7), 6);
        kindThrows(plane);
    }

    private static void kindThrows(SumBench x) {
        for (int turns : new int[] {-1, 8, Integer.MIN_VALUE, Integer.MAX_VALUE}) {
            Due.throwsIt("kinds", IllegalArgumentException.class, () -> x.kinds(turns));
            Due.throwsIt("kind", IllegalArgumentException.class, () -> x.kind(turns, 0, 0));
            Due.throwsIt("kind, none such", IllegalArgumentException.class, () -> x.kind(turns, 99, 9));
        }
        for (int other : new int[] {-1, 3, 300, Integer.MIN_VALUE, Integer.MAX_VALUE}) {
            Due.is("another what", x.kind(2, 0, other), -1);
            Due.is("no such kind", x.kind(2, other, 0), -1);
        }
        Due.is("no third kind", x.kind(2, 2, 0), -1);
        x.list(1);
        Due.is("nothing is listed", x.kinds(2), 0);
        Due.is("nothing is listed", x.kind(2, 0, 0), -1);
        x.list(5000);
        Due.is("kinds of a new list", x.kinds(2), 2);
        x.ground(1, 7);
        Due.is("gone with the ground", x.kinds(2), 0);
    }

    private static void promise20Count() {
        // The known numbers of sets of 1 .. n without a sum, and without three in a row.
        int[] sums = {2, 3, 6, 9, 16, 24, 42, 61, 108, 151, 253, 369, 607, 847, 1400};
        for (int n = 1; n <= sums.length; n++) {
            Due.is("sets without a sum of 1 .. " + n, Due.bench(0, n, 1, 0).count(50000), sums[n - 1]);
        }
        int[] rows = {2, 4, 7, 13, 23, 40, 65, 106};
        for (int n = 1; n <= rows.length; n++) {
            Due.is("sets without three in a row of 1 .. " + n, Due.bench(0, n, 0, 3).count(50000), rows[n - 1]);
        }
        SumBench x = new SumBench();
        x.ground(0, 3);
        Due.put(x, 0, 2);
        Due.is("all sets", x.count(15), 8);
        Due.is("looks", x.look(5), 15);
        Due.is("spent", x.count(14), -1);
        Due.is("looks", x.look(5), 14);
        Due.is("spent", x.count(1), -1);
        Due.is("looks", x.look(5), 1);
        Due.same("the sets stay", Due.set(x, 0), "(2)");
        SumBench none = Due.bench(0, 1, 2, 0);
        Due.is("the empty one alone", none.count(2), 1);
        x.ground(0, 14);
        Due.is("2 to the 14th", x.count(32767), 16384);
        for (int looks : NO_LOOKS) {
            Due.throwsIt("count", IllegalArgumentException.class, () -> x.count(looks));
        }
        Due.is("looks stay", x.look(5), 32767);
    }

    public static void main(String[] args) {
        promise15Known();
        promise15Spent();
        promises16And17List();
        promise16Spent();
        promise16Many();
        promises18And19Kinds();
        promise20Count();
        Due.end("SearchTest");
    }
}
