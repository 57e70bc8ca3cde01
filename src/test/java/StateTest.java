import java.util.NoSuchElementException;

/** Promises 1 to 11 and 28: the new object, tape, GROUND, SETS, LAWS and look. */
public final class StateTest {
    private static final int[] NO_SETS = {-1, 8, 64, Integer.MIN_VALUE, Integer.MAX_VALUE};

    private StateTest() {
    }

    private static void promise1New() {
        SumBench x = new SumBench();
        int[] want = {0, 20, 20, 0, 0, 0, 0};
        for (int what = 0; what < want.length; what++) {
            Due.is("new: look(" + what + ")", x.look(what), want[what]);
        }
        for (int k = 0; k < 8; k++) {
            Due.same("new: set " + k, Due.set(x, k), "()");
        }
        Due.is("new: listed", x.listed(0, 0), -1);
        Due.is("new: kinds", x.kinds(7), 0);
        for (int y = 0; y <= 21; y++) {
            Due.is("new: colour", x.colour(y), -1);
        }
        Due.throwsIt("new: witness", NoSuchElementException.class, () -> x.witness(0));
        Due.is("new: 20 is in", x.put(0, 20, true), true);
        Due.is("new: 21 is not", x.put(0, 21, true), false);
        Due.is("new: sheet of an empty tape", x.sheet(0, 0), 0);
        Due.same("new: which empties the set", Due.set(x, 0), "()");
        SumBench other = new SumBench();
        x.put(1, 5, true);
        x.law(1, 0, 0, 0, false);
        Due.is("another object has nothing of this one", other.size(1) + other.look(3), 0);
    }

    private static void promise2Feed() {
        SumBench x = new SumBench();
        Due.is("feed", x.feed(0x01020304, 0x05060708, 0x090a0b0c, 0x0d0e0f10, 0x11121314), 20);
        Due.is("bytes come highest first", x.sheet(0, 0), 20);
        Due.is("feed", x.feed(1, 2, 3, 4, 5), 20);
        Due.is("feed", x.feed(6, 7, 8, 9, 10), 40);
        Due.is("behind the tape", x.sheet(1, 2), 10);
        Due.same("all in turn", Due.set(x, 1), "(1 2 3 4 5 6 7 8 9 10)");
        for (int i = 1; i <= 25; i++) {
            Due.is("feed " + i, x.feed(i, i, i, i, i), 20 * i);
        }
        Due.is("the 26th feed", x.feed(1, 1, 1, 1, 1), -1);
        Due.is("none come", x.look(6), 500);
        Due.is("end", x.end(481), true);
        Due.is("one byte too many", x.feed(1, 1, 1, 1, 1), -1);
        Due.is("none come", x.look(6), 481);
        Due.is("end", x.end(480), true);
        Due.is("just room enough", x.feed(1, 1, 1, 1, 1), 500);
    }

    private static void promise3End() {
        SumBench x = new SumBench();
        Due.is("end(0) of an empty tape", x.end(0), true);
        Due.is("end(1) of an empty tape", x.end(1), false);
        x.feed(1, 2, 3, 4, 5);
        Due.is("end(21)", x.end(21), false);
        Due.is("end(-1)", x.end(-1), false);
        Due.is("end(the least)", x.end(Integer.MIN_VALUE), false);
        Due.is("end(the greatest)", x.end(Integer.MAX_VALUE), false);
        Due.is("the tape stays", x.look(6), 20);
        Due.is("end(20)", x.end(20), true);
        Due.is("end(8)", x.end(8), true);
        Due.is("look(6)", x.look(6), 8);
        Due.is("end(9)", x.end(9), false);
        x.feed(6, 7, 8, 9, 10);
        Due.is("sheet", x.sheet(0, 2), 7);
        Due.same("the first ones stay", Due.set(x, 0), "(1 2 6 7 8 9 10)");
    }

    private static void groundIs(SumBench x, int sort, int n, int first, int last) {
        String call = "ground(" + sort + ", " + n + ")";
        Due.is(call, x.ground(sort, n), true);
        Due.is(call + " sort", x.look(0), sort);
        Due.is(call + " n", x.look(1), n);
        Due.is(call + " numbers", x.look(2), last - first + 1);
        Due.is(call + " below", x.put(0, first - 1, true), false);
        Due.is(call + " first", x.put(0, first, true), true);
        Due.is(call + " above", x.put(0, last + 1, true), false);
        Due.is(call + " last", x.put(0, last, true), last > first);
    }

    private static void promise4Ground() {
        SumBench x = new SumBench();
        groundIs(x, 0, 1, 1, 1);
        groundIs(x, 0, 60, 1, 60);
        groundIs(x, 1, 2, 0, 1);
        groundIs(x, 1, 60, 0, 59);
        groundIs(x, 2, 1, 0, 2);
        groundIs(x, 2, 2, 0, 8);
        groundIs(x, 2, 3, 0, 26);
        int[][] wrong = {{0, 0}, {0, 61}, {0, -1}, {1, 1}, {1, 0}, {1, 61}, {2, 0}, {2, 4}, {-1, 3}, {3, 3},
            {Integer.MIN_VALUE, 3}, {0, Integer.MAX_VALUE}, {2, Integer.MIN_VALUE}};
        x.ground(0, 4);
        x.law(1, 0, 0, 0, false);
        x.list(500);
        x.colours(3, 500);
        Due.put(x, 7, 1, 2);
        x.clash(7);
        x.feed(1, 1, 1, 1, 1);
        int looks = x.look(5);
        for (int[] args : wrong) {
            Due.is("ground(" + args[0] + ", " + args[1] + ")", x.ground(args[0], args[1]), false);
        }
        Due.same("a wrong one changes nothing", Due.set(x, 7) + x.look(0) + x.look(1) + x.look(3) + x.look(4)
            + x.colour(2) + x.witness(1), "(1 2)041411");
        Due.is("the same ground again", x.ground(0, 4), true);
        Due.same("sets are empty", Due.set(x, 7), "()");
        Due.is("laws go", x.look(3), 0);
        Due.is("nothing is listed", x.look(4) + x.kinds(0), 0);
        Due.is("no colours", x.colour(1), -1);
        Due.throwsIt("no witness", NoSuchElementException.class, () -> x.witness(0));
        Due.is("the tape stays", x.look(6), 20);
        Due.is("the looks of the latest search stay", x.look(5), looks);
        Due.is("the laws do not come back", x.law(0, 3, 0, 0, false), 0);
        Due.put(x, 0, 1, 2);
        Due.is("1 + 1 = 2 is free now", x.clash(0), -1);
    }

    private static void promise5Sheet() {
        SumBench x = new SumBench();
        x.feed(0x01020304, 0x05050404, 0x03030202, 0x01010101, 0x0a0b0c14);
        Due.is("bytes, each once", x.sheet(0, 0), 9);
        Due.same("bytes", Due.set(x, 0), "(1 2 3 4 5 10 11 12 20)");
        Due.is("the tape is empty then", x.look(6), 0);
        x.feed(0x00010002, 0x00030014, 0x00130001, 0x00020002, 0x00020002);
        Due.is("shorts", x.sheet(1, 1), 5);
        Due.same("shorts", Due.set(x, 1), "(1 2 3 19 20)");
        x.feed(0, 7, 0, 8, 0);
        x.end(16);
        Due.is("longs", x.sheet(2, 3), 2);
        Due.same("longs", Due.set(x, 2), "(7 8)");
        x.feed(0, 7, 1, 8, 0);
        Due.is("a long above all ints", x.sheet(2, 3), -9);
        Due.same("the set stays", Due.set(x, 2), "(7 8)");
        Due.is("the tape is empty then", x.look(6), 0);
        x.feed(0, 7, -1, 8, 0);
        Due.is("a long below all ints", x.sheet(2, 3), -9);
        x.feed(0, 7, 0, 8, 0);
        Due.is("a long cut off", x.sheet(2, 3), -17);
        Due.same("the set stays", Due.set(x, 2), "(7 8)");
        x.feed(1, 2, 3, 4, 5);
        x.end(7);
        Due.is("an int cut off", x.sheet(2, 2), -5);
        x.feed(0x00010002, 0, 0, 0, 0);
        x.end(3);
        Due.is("a short cut off", x.sheet(2, 1), -3);
        x.feed(1, 2, 21, 0, 5);
        Due.is("the first that is not in the ground", x.sheet(2, 2), -9);
        x.feed(0x01020080, 0, 0, 0, 0);
        Due.is("0 is not in it", x.sheet(2, 0), -3);
        x.feed(0x01, -1, 0, 0, 0);
        Due.is("the first byte is wrong", x.sheet(2, 0), -1);
        Due.same("the set stays", Due.set(x, 2), "(7 8)");
        x.ground(0, 60);
        x.feed(0x3cff0000, 0, 0, 0, 0);
        Due.is("a byte has a sign", x.sheet(2, 0), -2);
        x.feed(0x003c813c, 0, 0, 0, 0);
        Due.is("a short has a sign", x.sheet(2, 1), -3);
        x.feed(60, 1, Integer.MIN_VALUE + 1, 0, 0);
        Due.is("an int has a sign", x.sheet(2, 2), -9);
        x.feed(0x00400000, 0, 0, 0, 0);
        Due.is("64 is not 0", x.sheet(2, 1), -1);
        x.ground(1, 7);
        x.feed(0x00060000, 0, 0, 0, 0);
        Due.is("0 is a rest", x.sheet(3, 0), 2);
        Due.is("an empty tape", x.sheet(3, 3), 0);
        Due.same("makes an empty set", Due.set(x, 3), "()");
        sheetThrows(x);
    }

    private static void sheetThrows(SumBench x) {
        x.feed(0, 0, 0, 0, 0);
        for (int k : NO_SETS) {
            Due.throwsIt("sheet, no such set", IndexOutOfBoundsException.class, () -> x.sheet(k, 0));
        }
        for (int width : new int[] {-1, 4, 32, Integer.MIN_VALUE}) {
            Due.throwsIt("sheet, no such width", IllegalArgumentException.class, () -> x.sheet(0, width));
        }
        Due.is("the tape stays then", x.look(6), 20);
    }

    private static void promises6To9Sets() {
        SumBench x = new SumBench();
        Due.is("put on", x.put(3, 5, true), true);
        Due.is("put on again", x.put(3, 5, true), false);
        Due.is("has", x.has(3, 5), true);
        Due.is("another set has not", x.has(2, 5), false);
        Due.is("put off", x.put(3, 5, false), true);
        Due.is("put off again", x.put(3, 5, false), false);
        Due.is("has", x.has(3, 5), false);
        for (int y : new int[] {0, 21, -1, 64 + 5, -59, Integer.MIN_VALUE, Integer.MAX_VALUE}) {
            Due.is("put of a number outside", x.put(3, y, true), false);
            Due.is("put off of a number outside", x.put(3, y, false), false);
            Due.is("has of a number outside", x.has(3, y), false);
        }
        Due.is("size of an empty set", x.size(3), 0);
        Due.throwsIt("at of an empty set", NoSuchElementException.class, () -> x.at(3, 0));
        Due.put(x, 3, 20, 7, 1, 13);
        Due.is("size", x.size(3), 4);
        Due.same("rising", Due.set(x, 3), "(1 7 13 20)");
        for (int i : new int[] {-1, 4, 64, Integer.MIN_VALUE, Integer.MAX_VALUE}) {
            Due.throwsIt("at, none such", NoSuchElementException.class, () -> x.at(3, i));
        }
        Due.put(x, 0, 2);
        Due.put(x, 7, 3);
        Due.same("the first and the last set", Due.set(x, 0) + Due.set(x, 7), "(2)(3)");
        for (int k : NO_SETS) {
            Due.throwsIt("put", IndexOutOfBoundsException.class, () -> x.put(k, 1, true) ? 1 : 0);
            Due.throwsIt("put outside", IndexOutOfBoundsException.class, () -> x.put(k, 99, true) ? 1 : 0);
            Due.throwsIt("has", IndexOutOfBoundsException.class, () -> x.has(k, 1) ? 1 : 0);
            Due.throwsIt("size", IndexOutOfBoundsException.class, () -> x.size(k));
            Due.throwsIt("at", IndexOutOfBoundsException.class, () -> x.at(k, 0));
        }
        x.ground(0, 60);
        for (int y = 60; y >= 1; y--) {
            x.put(4, y, true);
        }
        Due.is("a whole ground", x.size(4), 60);
        Due.is("its first", x.at(4, 0), 1);
        Due.is("its last", x.at(4, 59), 60);
    }

    private static void promise10Law() {
        SumBench x = new SumBench();
        int[][] wrong = {{-1, 3, 1, 1}, {5, 3, 1, 1}, {0, 2, 0, 0}, {0, 7, 0, 0}, {0, -3, 0, 0}, {4, 0, 0, 0},
            {4, 1, 0, 0}, {4, 0, 1, 0}, {4, 0, 0, 1}, {4, 10, 1, 1}, {4, 1, 10, 1}, {4, 1, 1, 10}, {4, -10, 1, 1},
            {4, 1, -10, 1}, {4, 1, 1, -10}, {4, Integer.MIN_VALUE, 1, 1}, {Integer.MAX_VALUE, 3, 1, 1}};
        for (int[] law : wrong) {
            Due.is("law " + java.util.Arrays.toString(law), x.law(law[0], law[1], law[2], law[3], false), -1);
            Due.is("no law of it", x.look(3), 0);
        }
        int[][] right = {{0, 3, 99, -99}, {0, 6, 0, 0}, {1, 99, 99, 99}, {2, -99, 0, 0}, {3, 99, 0, 0}, {4, 9, -9, 9},
            {4, 0, 1, 1}, {4, 1, 0, 1}, {4, 1, 1, 0}, {0, 4, 0, 0}, {0, 5, 0, 0}, {4, -9, 9, -9}};
        for (int i = 0; i < right.length; i++) {
            int[] law = right[i];
            Due.is("law " + java.util.Arrays.toString(law), x.law(law[0], law[1], law[2], law[3], i % 2 == 0), i % 6);
            if (i == 5) {
                Due.is("a seventh", x.law(1, 0, 0, 0, false), -1);
                Due.is("there are 6", x.look(3), 6);
                x.drop();
            }
        }
    }

    private static void promise11Drop() {
        SumBench x = new SumBench();
        Due.is("drop of none", x.drop(), 0);
        x.law(1, 0, 0, 0, false);
        x.law(0, 3, 0, 0, false);
        Due.put(x, 0, 1, 2, 3);
        Due.is("clash", x.clash(0), 0);
        Due.is("room", x.room(0), -2);
        Due.is("drop", x.drop(), 2);
        Due.is("look(3)", x.look(3), 0);
        Due.is("no clash now", x.clash(0), -1);
        Due.is("room now", x.room(0), 4);
        Due.is("greatest now", x.greatest(1, 50000), 20);
        Due.same("the sets stay", Due.set(x, 0), "(1 2 3)");
        Due.is("the witness stays", x.witness(2), 2);
        Due.is("the next is law 0", x.law(3, 0, 0, 0, false), 0);
    }

    private static void promise28Look() {
        SumBench x = new SumBench();
        x.ground(2, 3);
        x.law(0, 3, 0, 0, false);
        x.feed(0, 0, 0, 0, 0);
        Due.same("look", x.look(0) + " " + x.look(1) + " " + x.look(2) + " " + x.look(3) + " " + x.look(6),
            "2 3 27 1 20");
        for (int what : new int[] {-1, 7, 8, Integer.MIN_VALUE, Integer.MAX_VALUE}) {
            Due.is("look, none such", x.look(what), -1);
        }
        x.ground(0, 3);
        x.list(50000);
        Due.is("sets listed", x.look(4), 1);
        x.forced(2, 50000);
        Due.is("looks of forced: 2 + 3 + 4", x.look(5), 9);
        x.keep(0, 1);
        x.room(0);
        Due.throwsIt("count(0)", IllegalArgumentException.class, () -> x.count(0));
        Due.is("looks stay", x.look(5), 9);
    }

    public static void main(String[] args) {
        promise1New();
        promise2Feed();
        promise3End();
        promise4Ground();
        promise5Sheet();
        promises6To9Sets();
        promise10Law();
        promise11Drop();
        promise28Look();
        Due.end("StateTest");
    }
}
