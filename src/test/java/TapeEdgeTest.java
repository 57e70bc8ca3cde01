import java.util.Arrays;

/** The edges that promises 2, 3 and 5 name: a test for each sentence. */
public final class TapeEdgeTest {
    private static final int LEAST = Integer.MIN_VALUE;
    private static final int MOST = Integer.MAX_VALUE;

    private TapeEdgeTest() {
    }

    // ---- 2 and 3: the tape

    /** These bytes alone are the tape then. */
    private static void tape(SumBench x, int... bytes) {
        x.end(0);
        for (int from = 0; from < bytes.length; from += 20) {
            int[] words = new int[5];
            for (int i = 0; i < 20; i++) {
                words[i / 4] = words[i / 4] << 8 | (from + i < bytes.length ? bytes[from + i] : 0) & 255;
            }
            x.feed(words[0], words[1], words[2], words[3], words[4]);
        }
        Due.is("end(" + bytes.length + ")", x.end(bytes.length), true);
    }

    /** A bench with so many bytes, all of them 1 1 1 1, at most 500. */
    private static SumBench fed(int bytes) {
        SumBench x = Twins.laid();
        x.end(0);
        for (int i = 0; i < 25; i++) {
            x.feed(1, 1, 1, 1, 1);
        }
        Due.is("end", x.end(bytes), true);
        return x;
    }

    private static void highestFirst() {
        SumBench x = new SumBench();
        for (int many = 20; many > 0; many--) {
            Due.is("feed", x.feed(0x01020304, 0x05060708, 0x090a0b0c, 0x0d0e0f10, 0x11121314), 20);
            x.end(many);
            Due.is("the first " + many, x.sheet(0, 0), many);
            Due.is("the last of them", x.at(0, many - 1), many);
        }
    }

    private static void behindTheTape() {
        SumBench x = new SumBench();
        x.feed(1, 2, 3, 4, 5);
        x.end(8);
        Due.is("behind 8", x.feed(6, 7, 8, 9, 10), 28);
        Due.is("behind 28", x.feed(11, 12, 13, 14, 15), 48);
        Due.is("sheet", x.sheet(0, 2), 12);
        Due.same("all", Due.set(x, 0), "(1 2 6 7 8 9 10 11 12 13 14 15)");
    }

    private static void howManyItHas() {
        SumBench x = new SumBench();
        for (int many = 20; many <= 500; many += 20) {
            Due.is("feed", x.feed(1, 1, 1, 1, 1), many);
            Due.is("look(6)", x.look(6), many);
        }
    }

    private static void moreThan500() {
        for (int bytes : new int[] {500, 499, 481}) {
            Twins.changes("feed behind " + bytes, () -> fed(bytes), x -> x.feed(2, 2, 2, 2, 2), "-1");
        }
        Twins.changes("feed behind 480", () -> fed(480), x -> x.feed(2, 2, 2, 2, 2), "500", "tape");
        Twins.changes("feed behind 479", () -> fed(479), x -> x.feed(2, 2, 2, 2, 2), "499", "tape");
    }

    private static void firstBytesAlone() {
        Twins.changes("end(0)", x -> Due.bit(x.end(0)), "1", "tape");
        Twins.changes("end(19)", x -> Due.bit(x.end(19)), "1", "tape");
        Twins.changes("end(20)", x -> Due.bit(x.end(20)), "1");
        SumBench x = new SumBench();
        Due.is("end(0) of an empty tape", x.end(0), true);
        x.feed(1, 2, 3, 4, 5);
        Due.is("end(12)", x.end(12), true);
        Due.is("look(6)", x.look(6), 12);
        Due.is("what is gone does not come back", x.end(13), false);
        Due.is("sheet", x.sheet(0, 2), 3);
        Due.same("the first ones", Due.set(x, 0), "(1 2 3)");
        Due.is("end(500) of a full one", fed(500).end(500), true);
    }

    private static void notSoMany() {
        for (int n : new int[] {21, 22, 500, 501, MOST}) {
            Twins.changes("end(" + n + ")", x -> Due.bit(x.end(n)), "0");
        }
        Twins.changes("end(501)", () -> fed(500), x -> Due.bit(x.end(501)), "0");
        Twins.changes("end(1)", () -> fed(0), x -> Due.bit(x.end(1)), "0");
    }

    private static void belowNought() {
        Twins.changes("end(-1)", x -> Due.bit(x.end(-1)), "0");
        Twins.changes("end(the least)", x -> Due.bit(x.end(LEAST)), "0");
        Twins.changes("end(-1)", () -> fed(0), x -> Due.bit(x.end(-1)), "0");
    }

    // ---- 5: sheet

    private static void sheetIs(int width, int want, String set, int... bytes) {
        SumBench x = new SumBench();
        x.put(0, 19, true);
        tape(x, bytes);
        String call = "width " + width + " of " + Arrays.toString(bytes);
        Due.is(call, x.sheet(0, width), want);
        Due.same(call + ": the set", Due.set(x, 0), set);
        Due.is(call + ": the tape", x.look(6), 0);
    }

    private static void widths() {
        sheetIs(0, 4, "(1 2 3 4)", 1, 2, 3, 4);
        sheetIs(1, 2, "(2 4)", 0, 2, 0, 4);
        sheetIs(2, 2, "(3 7)", 0, 0, 0, 7, 0, 0, 0, 3);
        sheetIs(3, 2, "(9 20)", 0, 0, 0, 0, 0, 0, 0, 9, 0, 0, 0, 0, 0, 0, 0, 20);
    }

    private static void noSuchWidth() {
        for (int width : new int[] {-1, 4, 31, 32, LEAST, MOST}) {
            Twins.changes("sheet(0, " + width + ")", x -> x.sheet(0, width), Twins.NOT_ALLOWED);
        }
    }

    private static void signAndHighestByte() {
        sheetIs(0, -1, "(19)", 0x83);
        sheetIs(0, -2, "(19)", 1, 0xff);
        sheetIs(1, -1, "(19)", 5, 0);
        sheetIs(1, -1, "(19)", 0x80, 5);
        sheetIs(2, -1, "(19)", 5, 0, 0, 0);
        sheetIs(2, -1, "(19)", 0, 5, 0, 5);
        sheetIs(2, -1, "(19)", 0x80, 0, 0, 5);
        sheetIs(2, -1, "(19)", 0xff, 0xff, 0xff, 0xfb);
        for (int place = 0; place < 7; place++) {
            for (int high : new int[] {1, 0x80}) {
                int[] bytes = {0, 0, 0, 0, 0, 0, 0, 5};
                bytes[place] = high;
                sheetIs(3, -1, "(19)", bytes);
            }
        }
    }

    private static void whichItHasThen() {
        sheetIs(0, 1, "(5)", 5);
        sheetIs(0, 2, "(5 19)", 19, 5);
        sheetIs(0, 0, "()");
        sheetIs(3, 0, "()");
        SumBench x = new SumBench();
        x.ground(0, 60);
        int[] all = new int[60];
        for (int i = 0; i < 60; i++) {
            all[i] = 60 - i;
        }
        tape(x, all);
        Due.is("a whole ground", x.sheet(7, 0), 60);
        Due.is("its last", x.at(7, 59), 60);
        Twins.changes("sheet(4, 2)", y -> y.sheet(4, 2), "5", "set 4", "tape");
    }

    private static void eachOnce() {
        sheetIs(0, 1, "(7)", 7, 7, 7);
        sheetIs(1, 2, "(7 8)", 0, 8, 0, 7, 0, 8);
        SumBench x = fed(500);
        Due.is("500 bytes are 125 ints, all 1", x.sheet(0, 2), 1);
    }

    private static void firstNotInTheGround() {
        sheetIs(0, -1, "(19)", 0, 1, 2);
        sheetIs(0, -1, "(19)", 21, 1, 2);
        sheetIs(0, -3, "(19)", 1, 20, 21);
        sheetIs(0, -2, "(19)", 1, 0, 20, 21);
        sheetIs(0, -2, "(19)", 1, 64 + 1, 3);
        sheetIs(1, -3, "(19)", 0, 1, 0, 21, 0, 0);
        sheetIs(1, -3, "(19)", 0, 1, 0, 0, 0);
        sheetIs(2, -5, "(19)", 0, 0, 0, 20, 0, 0, 0, 21);
        sheetIs(3, -9, "(19)", 0, 0, 0, 0, 0, 0, 0, 1, 0, 0, 0, 0, 0, 0, 0, 0);
        Twins.changes("0 of rests", Twins::laidOfRests, x -> x.end(3) ? x.sheet(5, 0) : 9, "1", "set 5", "tape");
        Twins.changes("7 of rests by 7", TapeEdgeTest::rests7, x -> x.sheet(5, 2), "-5", "tape");
    }

    private static SumBench rests7() {
        SumBench x = Twins.laidOfRests();
        x.end(0);
        x.feed(6, 7, 0, 0, 0);
        return x;
    }

    private static void cutOff() {
        for (int width = 1; width <= 3; width++) {
            int step = 1 << width;
            sheetIs(width, 2, "(3 4)", threeAndFour(step, 0));
            for (int more = 1; more < step; more++) {
                sheetIs(width, -1 - 2 * step, "(19)", threeAndFour(step, more));
                sheetIs(width, -1, "(19)", new int[more]);
            }
        }
        int[] full = new int[500];
        for (int place = 7; place < 500; place += 8) {
            full[place] = 1;
        }
        sheetIs(3, -497, "(19)", full);
    }

    /** 3 and 4 of so many bytes each, and bytes that are left over. */
    private static int[] threeAndFour(int step, int more) {
        int[] bytes = new int[2 * step + more];
        bytes[step - 1] = 3;
        bytes[2 * step - 1] = 4;
        return bytes;
    }

    private static void setStays() {
        Twins.changes("one not in the ground", () -> fedWith(7), x -> x.sheet(0, 2), "-17", "tape");
        Twins.changes("one cut off", () -> fedWith(5), x -> x.end(19) ? x.sheet(3, 2) : 9, "-17", "tape");
        Twins.changes("none", () -> fedWith(0), x -> x.end(0) ? x.sheet(3, 2) : 9, "0", "tape", "set 3");
    }

    private static SumBench fedWith(int last) {
        SumBench x = Twins.laid();
        x.end(0);
        x.feed(1, 2, 3, 4, last);
        return x;
    }

    private static void tapeIsEmptyThen() {
        SumBench x = new SumBench();
        x.feed(1, 2, 3, 4, 5);
        x.sheet(0, 2);
        Due.is("look(6)", x.look(6), 0);
        Due.is("end(1)", x.end(1), false);
        Due.is("the next comes first", x.feed(6, 6, 6, 6, 6), 20);
        Due.is("and alone", x.sheet(0, 2), 1);
        x.feed(1, 2, 3, 4, 0);
        Due.is("one not in the ground", x.sheet(0, 2), -17);
        Due.is("look(6)", x.look(6), 0);
        Due.same("the set stays", Due.set(x, 0), "(6)");
    }

    public static void main(String[] args) {
        Due.sentence("2: Twenty bytes come, of each number the highest first", TapeEdgeTest::highestFirst);
        Due.sentence("2: behind the tape", TapeEdgeTest::behindTheTape);
        Due.sentence("2: how many it has", TapeEdgeTest::howManyItHas);
        Due.sentence("2: NONE, and none come, if it would have more than 500", TapeEdgeTest::moreThan500);
        Due.sentence("3: The tape has its first n bytes alone: true", TapeEdgeTest::firstBytesAlone);
        Due.sentence("3: false, if it has not so many", TapeEdgeTest::notSoMany);
        Due.sentence("3: or n is below 0", TapeEdgeTest::belowNought);
        Due.sentence("5: a width 0 bytes, 1 shorts, 2 ints, 3 longs", TapeEdgeTest::widths);
        Due.sentence("5: IllegalArgumentException: no such width", TapeEdgeTest::noSuchWidth);
        Due.sentence("5: with a sign, the highest byte first", TapeEdgeTest::signAndHighestByte);
        Due.sentence("5: which SET k has then", TapeEdgeTest::whichItHasThen);
        Due.sentence("5: how many they are, each once", TapeEdgeTest::eachOnce);
        Due.sentence("5: -1 less the place of the first byte of the first one that is not in the GROUND",
            TapeEdgeTest::firstNotInTheGround);
        Due.sentence("5: or that is cut off", TapeEdgeTest::cutOff);
        Due.sentence("5: SET k stays", TapeEdgeTest::setStays);
        Due.sentence("5: The tape (empty then)", TapeEdgeTest::tapeIsEmptyThen);
        Due.end("TapeEdgeTest");
    }
}
