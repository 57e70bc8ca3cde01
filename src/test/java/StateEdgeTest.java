import java.util.Arrays;

/** The edges that promises 1, 4, 6 to 11 and 28 name, and what is thrown without a SET: a test for each sentence. */
public final class StateEdgeTest {
    private static final int LEAST = Integer.MIN_VALUE;
    private static final int MOST = Integer.MAX_VALUE;
    private static final String[] ALL_SETS = {"set 0", "set 1", "set 2", "set 3", "set 4", "set 5", "set 6", "set 7"};

    private StateEdgeTest() {
    }

    // ---- 1: a new object

    private static void newGround() {
        SumBench x = new SumBench();
        Due.same("look", x.look(0) + " " + x.look(1) + " " + x.look(2), "0 20 20");
        for (int y = 0; y <= 21; y++) {
            Due.is("put(0, " + y + ", true)", x.put(0, y, true), y >= 1 && y <= 20);
        }
    }

    private static void newLaws() {
        SumBench x = new SumBench();
        Due.is("look(3)", x.look(3), 0);
        Due.is("all KEEP them", x.greatest(0, 500), 20);
        Due.is("drop", x.drop(), 0);
        Due.is("the first law", x.law(1, 0, 0, 0, false), 0);
    }

    private static void newSets() {
        SumBench x = new SumBench();
        for (int k = 0; k < 8; k++) {
            Due.same("set " + k, Due.set(x, k), "()");
        }
    }

    private static void newListing() {
        SumBench x = new SumBench();
        Due.is("look(4)", x.look(4), 0);
        Due.is("listed", x.listed(0, 0), -1);
        Due.is("kinds", x.kinds(0), 0);
        Due.is("kind", x.kind(0, 0, 0), -1);
    }

    private static void newTape() {
        SumBench x = new SumBench();
        Due.is("look(6)", x.look(6), 0);
        Due.is("end(1)", x.end(1), false);
        Due.is("feed", x.feed(1, 1, 1, 1, 1), 20);
        Due.is("sheet of another", new SumBench().sheet(0, 0), 0);
    }

    // ---- 4: ground

    private static String[] with(String[] parts, String... more) {
        String[] all = Arrays.copyOf(parts, parts.length + more.length);
        System.arraycopy(more, 0, all, parts.length, more.length);
        return all;
    }

    private static void alsoTheSame() {
        Twins.changes("ground(0, 6)", x -> Due.bit(x.ground(0, 6)), "1",
            with(ALL_SETS, "laws", "listing", "colours", "witness"));
        Twins.changes("ground(1, 7)", Twins::laidOfRests, x -> Due.bit(x.ground(1, 7)), "1",
            with(ALL_SETS, "laws", "listing", "colours", "witness"));
    }

    private static void anotherGround() {
        String[] parts = with(ALL_SETS, "ground", "laws", "listing", "colours", "witness");
        Twins.changes("ground(0, 7)", x -> Due.bit(x.ground(0, 7)), "1", parts);
        Twins.changes("ground(1, 6)", x -> Due.bit(x.ground(1, 6)), "1", parts);
        Twins.changes("ground(2, 2)", x -> Due.bit(x.ground(2, 2)), "1", parts);
    }

    private static SumBench groundAgain() {
        SumBench x = Twins.laid();
        x.ground(0, 6);
        return x;
    }

    private static void lawsGo() {
        SumBench x = groundAgain();
        Due.is("look(3)", x.look(3), 0);
        Due.is("all KEEP them", x.greatest(0, 500), 6);
        Due.is("and each may come in", x.keep(0, 1), 6);
        Due.is("drop", x.drop(), 0);
        Due.is("the first law", x.law(2, 0, 0, 0, false), 0);
        x.put(1, 3, true);
        x.put(1, 6, true);
        Due.is("3 3 6 is no clash now", x.clash(1), -1);
    }

    private static void setsAreEmpty() {
        SumBench x = groundAgain();
        for (int k = 0; k < 8; k++) {
            Due.same("set " + k, Due.set(x, k), "()");
        }
    }

    private static void nothingIsListed() {
        SumBench x = groundAgain();
        Due.is("look(4)", x.look(4), 0);
        Due.is("listed", x.listed(0, 0), -1);
        Due.is("kinds", x.kinds(0), 0);
    }

    private static void noColours() {
        SumBench x = groundAgain();
        for (int y = 0; y <= 7; y++) {
            Due.is("colour(" + y + ")", x.colour(y), -1);
        }
    }

    private static void notAsTold() {
        int[][] wrong = {{0, 0}, {0, 61}, {1, 1}, {1, 61}, {2, 0}, {2, 4}, {-1, 2}, {3, 2}};
        for (int[] ground : wrong) {
            Twins.changes("ground" + Arrays.toString(ground), Twins::laidOfRests,
                x -> Due.bit(x.ground(ground[0], ground[1])), "0");
        }
    }

    // ---- 5, and all below it

    private interface OfSet {
        long on(SumBench x, int k);
    }

    private static void noSuchSet() {
        OfSet[] calls = {(x, k) -> x.sheet(k, 2), (x, k) -> Due.bit(x.put(k, 4, true)),
            (x, k) -> Due.bit(x.put(k, 3, false)), (x, k) -> Due.bit(x.has(k, 3)), SumBench::size,
            (x, k) -> x.at(k, 0), SumBench::clash, SumBench::room, (x, k) -> x.greatest(k, 50),
            (x, k) -> x.listed(k, 0), (x, k) -> x.sums(k, 2, 0, 1), (x, k) -> x.sums(2, k, 0, 1),
            (x, k) -> x.sums(2, 1, 0, k), SumBench::energy, SumBench::order, (x, k) -> x.keep(k, 7)};
        for (int i = 0; i < calls.length; i++) {
            OfSet call = calls[i];
            for (int k : new int[] {-1, 8, 64, LEAST, MOST}) {
                Twins.changes("call " + i + " of set " + k, x -> call.on(x, k), Twins.NO_SET);
            }
            for (int k : new int[] {0, 7}) {
                Due.is("call " + i + " of set " + k + " throws",
                    Due.outcome(() -> call.on(Twins.laid(), k)).startsWith("throws"), false);
            }
        }
    }

    // ---- 6 to 9: SETS

    private static void anotherThanItWas() {
        Twins.changes("put on", x -> Due.bit(x.put(0, 6, true)), "1", "set 0");
        Twins.changes("put off", x -> Due.bit(x.put(0, 1, false)), "1", "set 0");
        Twins.changes("put off of the last set", x -> Due.bit(x.put(7, 6, false)), "1", "set 7");
        Twins.changes("put on of 0", Twins::laidOfRests, x -> Due.bit(x.put(7, 0, true)), "1", "set 7");
    }

    private static void soAlready() {
        Twins.changes("put on", x -> Due.bit(x.put(0, 1, true)), "0");
        Twins.changes("put off", x -> Due.bit(x.put(0, 6, false)), "0");
        Twins.changes("put off of 0", Twins::laidOfRests, x -> Due.bit(x.put(7, 0, false)), "0");
    }

    private static void putOutside() {
        for (int y : new int[] {0, 7, -1, 60, 61, 64 + 1, 64 + 5, -63, LEAST, LEAST + 1, MOST}) {
            Twins.changes("put on of " + y, x -> Due.bit(x.put(0, y, true)), "0");
            Twins.changes("put off of " + y, x -> Due.bit(x.put(0, y, false)), "0");
        }
        for (int y : new int[] {7, -1, 64, 64 + 1, -64, LEAST}) {
            Twins.changes("put on of " + y, Twins::laidOfRests, x -> Due.bit(x.put(0, y, true)), "0");
            Twins.changes("put off of " + y, Twins::laidOfRests, x -> Due.bit(x.put(0, y, false)), "0");
        }
    }

    private static void whetherItHas() {
        SumBench x = Twins.laid();
        for (int y = -1; y <= 130; y++) {
            Due.is("has(3, " + y + ")", x.has(3, y), y >= 1 && y <= 6);
            Due.is("has(6, " + y + ")", x.has(6, y), y == 2 || y == 5);
        }
        for (int y : new int[] {LEAST, LEAST + 1, -64, -63, MOST}) {
            Due.is("has(3, " + y + ")", x.has(3, y), false);
        }
        Due.is("an empty set has none", new SumBench().has(0, 1), false);
        Twins.changes("has", z -> Due.bit(z.has(0, 1)), "1");
    }

    private static void howManyInASet() {
        SumBench x = new SumBench();
        x.ground(1, 60);
        for (int y = 0; y < 60; y++) {
            Due.is("size", x.size(2), y);
            x.put(2, 59 - y, true);
        }
        Due.is("size", x.size(2), 60);
        x.put(2, 0, false);
        Due.is("size", x.size(2), 59);
        Twins.changes("size", z -> z.size(6), "2");
    }

    private static void from0OnRising() {
        SumBench x = new SumBench();
        x.ground(0, 60);
        Due.put(x, 4, 60, 31, 1, 32, 2);
        int[] want = {1, 2, 31, 32, 60};
        for (int i = 0; i < want.length; i++) {
            Due.is("at(4, " + i + ")", x.at(4, i), want[i]);
        }
        Twins.changes("at", z -> z.at(6, 1), "5");
    }

    private static void noneSuchAt() {
        for (int i : new int[] {-1, 3, 64, LEAST, MOST}) {
            Twins.changes("at(0, " + i + ")", x -> x.at(0, i), Twins.NONE_SUCH);
        }
        Due.same("of an empty set", Due.outcome(() -> new SumBench().at(0, 0)), Twins.NONE_SUCH);
        SumBench x = new SumBench();
        x.ground(0, 60);
        x.greatest(0, 500);
        Due.is("the last of all", x.at(0, 59), 60);
        Due.same("behind all", Due.outcome(() -> x.at(0, 60)), Twins.NONE_SUCH);
    }

    // ---- 10 and 11: LAWS

    private static void itsNumber() {
        SumBench x = new SumBench();
        for (int i = 0; i < 5; i++) {
            Due.is("law", x.law(i, 3, 1, 1, i % 2 == 0), i);
            Due.is("look(3)", x.look(3), i + 1);
        }
        Twins.changes("law", y -> y.law(2, 0, 0, 0, false), "2", "laws");
    }

    private static SumBench sixLaws() {
        SumBench x = Twins.laid();
        for (int i = 2; i < 6; i++) {
            x.law(0, 5, 0, 0, false);
        }
        return x;
    }

    private static void thereAre6() {
        Due.is("look(3)", sixLaws().look(3), 6);
        for (int kind = 0; kind < 5; kind++) {
            int seventh = kind;
            Twins.changes("a seventh, " + kind, StateEdgeTest::sixLaws, x -> x.law(seventh, 3, 1, 1, false), "-1");
        }
        SumBench x = sixLaws();
        x.drop();
        Due.is("the first again", x.law(0, 3, 0, 0, false), 0);
    }

    private static void noSuchKind() {
        for (int kind : new int[] {-1, 5, 6, LEAST, MOST}) {
            Twins.changes("law(" + kind + ", ..)", x -> x.law(kind, 3, 1, 1, false), "-1");
        }
    }

    private static void kOfRow() {
        for (int k : new int[] {2, 7, 0, -3, LEAST, MOST}) {
            Twins.changes("ROW of " + k, x -> x.law(0, k, 3, 3, false), "-1");
        }
        for (int k = 3; k <= 6; k++) {
            Due.is("ROW of " + k, new SumBench().law(0, k, 0, 0, false), 0);
        }
    }

    private static void nothingOfOthers() {
        for (int other : new int[] {0, 10, -10, LEAST, MOST}) {
            Due.clashIs(Due.bench(0, 20, 0, 3, other, other, true), "(1 2 0 0)", 1, 2, 3);
            Due.clashIs(Due.bench(0, 20, 1, other, other, other, false), "(2 2 4 0)", 2, 4);
            Due.clashIs(Due.bench(0, 20, 2, other, other, other, true), "(2 4 8 0)", 2, 4, 8);
            Due.clashIs(Due.bench(0, 20, 3, other, other, other, true), "(1 3 2 2)", 1, 2, 3);
        }
    }

    private static void allLawsGo() {
        Twins.changes("drop", x -> x.drop(), "2", "laws");
        Twins.changes("drop of 6", StateEdgeTest::sixLaws, x -> x.drop(), "6", "laws");
        SumBench x = sixLaws();
        x.drop();
        Twins.changes("drop of none", StateEdgeTest::groundAgain, y -> y.drop(), "0");
        Due.is("drop again", x.drop(), 0);
        Due.is("all KEEP them", x.clash(3), -1);
        Due.is("all may come in", x.keep(0, 9), 6);
    }

    // ---- 28: look

    private static void lookOfTheGround() {
        SumBench x = new SumBench();
        int[][] grounds = {{0, 1, 1}, {0, 60, 60}, {1, 2, 2}, {1, 60, 60}, {2, 1, 3}, {2, 2, 9}, {2, 3, 27}};
        for (int[] ground : grounds) {
            x.ground(ground[0], ground[1]);
            Due.same("look", Arrays.toString(new int[] {x.look(0), x.look(1), x.look(2)}), Arrays.toString(ground));
        }
    }

    private static void looksOfTheLatest() {
        SumBench x = new SumBench();
        x.ground(0, 3);
        x.count(50000);
        Due.is("count", x.look(5), 15);
        x.greatest(0, 50000);
        Due.is("greatest", x.look(5), 7);
        x.list(50000);
        Due.is("list: both", x.look(5), 14);
        x.list(5);
        Due.is("list: the first was SPENT", x.look(5), 5);
        x.colours(1, 50000);
        Due.is("colours", x.look(5), 4);
        x.forced(1, 50000);
        Due.is("forced: all", x.look(5), 9);
        x.forced(1, 3);
        Due.is("forced: the third was SPENT", x.look(5), 8);
        x.greatest(0, 1);
        Due.is("greatest, SPENT", x.look(5), 1);
    }

    private static void anotherWhat() {
        for (int what : new int[] {-1, 7, 8, LEAST, MOST}) {
            Twins.changes("look(" + what + ")", x -> x.look(what), "-1");
        }
        int[] want = {0, 6, 6, 2, 10, 11, 20};
        for (int i = 0; i < want.length; i++) {
            int what = i;
            Twins.changes("look(" + what + ")", x -> x.look(what), "" + want[i]);
        }
    }

    private static void groundSentences() {
        Due.sentence("1: GROUND 1 .. 20", StateEdgeTest::newGround);
        Due.sentence("1: no LAWS", StateEdgeTest::newLaws);
        Due.sentence("1: SETS empty", StateEdgeTest::newSets);
        Due.sentence("1: nothing listed", StateEdgeTest::newListing);
        Due.sentence("1: an empty tape", StateEdgeTest::newTape);
        Due.sentence("4: Another GROUND: true", StateEdgeTest::anotherGround);
        Due.sentence("4: also if it is the same one", StateEdgeTest::alsoTheSame);
        Due.sentence("4: LAWS go", StateEdgeTest::lawsGo);
        Due.sentence("4: SETS are empty", StateEdgeTest::setsAreEmpty);
        Due.sentence("4: nothing is listed", StateEdgeTest::nothingIsListed);
        Due.sentence("4: no COLOURS", StateEdgeTest::noColours);
        Due.sentence("4: false, if it is not as told", StateEdgeTest::notAsTold);
    }

    private static void setSentences() {
        Due.sentence("5: IndexOutOfBoundsException: there is no such SET (here and below)", StateEdgeTest::noSuchSet);
        Due.sentence("6: true, if that is another one than it was", StateEdgeTest::anotherThanItWas);
        Due.sentence("6: false if it is so already", StateEdgeTest::soAlready);
        Due.sentence("6: or it is not in the GROUND", StateEdgeTest::putOutside);
        Due.sentence("7: Whether SET k has a number", StateEdgeTest::whetherItHas);
        Due.sentence("8: How many numbers SET k has", StateEdgeTest::howManyInASet);
        Due.sentence("9: from 0 on, rising", StateEdgeTest::from0OnRising);
        Due.sentence("9: NoSuchElementException: there is none such", StateEdgeTest::noneSuchAt);
    }

    private static void lawSentences() {
        Due.sentence("10: One LAW more: its number", StateEdgeTest::itsNumber);
        Due.sentence("10: NONE, if there are 6", StateEdgeTest::thereAre6);
        Due.sentence("10: or it is not as told (its kind)", StateEdgeTest::noSuchKind);
        Due.sentence("10: a: k of ROW", StateEdgeTest::kOfRow);
        Due.sentence("10: of others they are nothing", StateEdgeTest::nothingOfOthers);
        Due.sentence("11: All LAWS go: how many", StateEdgeTest::allLawsGo);
        Due.sentence("28: 0 the sort of the GROUND, 1 its n, 2 how many numbers it has",
            StateEdgeTest::lookOfTheGround);
        Due.sentence("28: LOOKS of the latest search (of list() and forced() of all its searches together)",
            StateEdgeTest::looksOfTheLatest);
        Due.sentence("28: NONE for another what", StateEdgeTest::anotherWhat);
    }

    public static void main(String[] args) {
        groundSentences();
        setSentences();
        lawSentences();
        Due.end("StateEdgeTest");
    }
}
