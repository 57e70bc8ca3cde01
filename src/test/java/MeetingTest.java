import java.math.BigInteger;
import java.util.ArrayList;
import java.util.Arrays;
import java.util.List;
import java.util.NoSuchElementException;

/**
 * Calls of several promises on one object: what one call answers must agree with what others answer, whatever the
 * GROUND and the LAWS. Nothing here is reckoned by SlowBench: the answers are held against one another.
 */
public final class MeetingTest {
    private static final int MOST_LOOKS = 50000;
    private static final int[][] GROUNDS = {
        {0, 1}, {0, 2}, {0, 6}, {0, 9}, {1, 2}, {1, 5}, {1, 6}, {1, 8}, {1, 9}, {2, 1}, {2, 2}
    };
    /** Each row is a lot of LAWS, five numbers a LAW: kind, a, b, c, 1 of unlike ones. */
    private static final int[][] LAWS = {
        {}, {0, 3, 0, 0, 0}, {0, 4, 0, 0, 0}, {0, 5, 0, 0, 0}, {0, 6, 0, 0, 0}, {1, 0, 0, 0, 0}, {1, 0, 0, 0, 1},
        {2, 0, 0, 0, 0}, {2, 0, 0, 0, 1}, {3, 0, 0, 0, 0}, {4, 1, 2, -3, 0}, {4, 1, 2, -3, 1}, {4, 2, -1, 0, 0},
        {4, 0, 3, 9, 0}, {4, 5, 0, 5, 1}, {4, 1, 1, 1, 0}, {4, -9, 4, 7, 1},
        {0, 4, 0, 0, 0, 1, 0, 0, 0, 1}, {2, 0, 0, 0, 1, 4, 1, -2, 0, 0, 0, 3, 0, 0, 0},
        {4, 1, 1, -3, 1, 4, 1, -4, 0, 0, 0, 5, 0, 0, 0, 2, 0, 0, 0, 1, 1, 0, 0, 0, 1, 0, 4, 0, 0, 0}
    };

    /** What is looked at with each GROUND and each lot of LAWS. */
    interface Meeting {
        void at(int[] ground, int[] laws);
    }

    private MeetingTest() {
    }

    private static void everywhere(String words, Meeting meeting) {
        Due.sentence(words, () -> {
            for (int[] ground : GROUNDS) {
                for (int[] laws : LAWS) {
                    meeting.at(ground, laws);
                }
            }
        });
    }

    private static String told(String what, int[] ground, int[] laws) {
        return what + " in ground " + Arrays.toString(ground) + " by " + Arrays.toString(laws);
    }

    private static SumBench made(int[] ground, int[] laws) {
        SumBench x = new SumBench();
        lay(x, ground, laws);
        return x;
    }

    private static void lay(SumBench x, int[] ground, int[] laws) {
        Due.is("ground", x.ground(ground[0], ground[1]), true);
        tellLaws(x, laws);
    }

    private static void tellLaws(SumBench x, int[] laws) {
        for (int i = 0; i < laws.length; i += 5) {
            tellLaw(x, laws, i);
        }
    }

    private static void tellLaw(SumBench x, int[] laws, int i) {
        Due.is("law", x.law(laws[i], laws[i + 1], laws[i + 2], laws[i + 3], laws[i + 4] == 1), i / 5);
    }

    /** The numbers of the GROUND, rising. */
    private static int[] numbers(SumBench x) {
        int[] numbers = new int[x.look(2)];
        int first = x.look(0) == 0 ? 1 : 0;
        for (int i = 0; i < numbers.length; i++) {
            numbers[i] = first + i;
        }
        return numbers;
    }

    /** SET k has those numbers alone whose bits are set, number i of the GROUND by bit i. */
    private static void write(SumBench x, int k, int[] numbers, int bits) {
        for (int i = 0; i < numbers.length; i++) {
            x.put(k, numbers[i], (bits >> i & 1) == 1);
        }
    }

    /** All sets of a GROUND, asked one by one: how many KEEP the LAWS, by their size. */
    private static int[] keepingBySize(int[] ground, int[] laws) {
        SumBench x = made(ground, laws);
        int[] numbers = numbers(x);
        int[] bySize = new int[numbers.length + 1];
        int calls = 10;
        int had = 0;
        for (int i = 0; i < 1 << numbers.length; i++) {
            int bits = i ^ i >> 1;
            if (calls > 480) {
                // An object is used for 512 calls; the next one goes on with the same set.
                x = made(ground, laws);
                write(x, 0, numbers, had);
                calls = 30;
            }
            if (bits != had) {
                int turned = Integer.numberOfTrailingZeros(bits ^ had);
                x.put(0, numbers[turned], (bits >> turned & 1) == 1);
            }
            had = bits;
            bySize[Integer.bitCount(bits)] += x.clash(0) == SumBench.NONE ? 1 : 0;
            calls += 2;
        }
        return bySize;
    }

    private static int greatestSize(int[] bySize) {
        int size = bySize.length - 1;
        while (bySize[size] == 0) {
            size--;
        }
        return size;
    }

    private static void searchesAndClash(int[] ground, int[] laws) {
        int[] bySize = keepingBySize(ground, laws);
        int all = 0;
        for (int many : bySize) {
            all += many;
        }
        int size = greatestSize(bySize);
        SumBench x = made(ground, laws);
        Due.is(told("count", ground, laws), x.count(MOST_LOOKS), all);
        Due.is(told("greatest", ground, laws), x.greatest(0, MOST_LOOKS), size);
        Due.is(told("list", ground, laws), x.list(MOST_LOOKS), bySize[size]);
    }

    private static void greatestIsFull(int[] ground, int[] laws) {
        SumBench x = made(ground, laws);
        int size = x.greatest(3, MOST_LOOKS);
        Due.is(told("size", ground, laws), x.size(3), size);
        Due.is(told("clash", ground, laws), x.clash(3), SumBench.NONE);
        Due.is(told("room", ground, laws), x.room(3), SumBench.NONE);
        String best = Due.set(x, 3);
        int looks = x.look(5);
        Due.is(told("with no look to spare", ground, laws), x.greatest(4, looks), size);
        Due.same(told("its set", ground, laws), Due.set(x, 4), best);
        Due.is(told("with a look fewer", ground, laws), x.greatest(5, looks - 1) < 0, true);
    }

    /** Whether one set, its numbers rising, is ahead of another of as many. */
    private static boolean isAhead(List<Integer> one, List<Integer> other) {
        for (int i = 0; i < one.size(); i++) {
            if (!one.get(i).equals(other.get(i))) {
                return one.get(i) < other.get(i);
            }
        }
        return false;
    }

    private static List<Integer> read(SumBench x, int k) {
        List<Integer> set = new ArrayList<>();
        for (int i = 0; i < x.size(k); i++) {
            set.add(x.at(k, i));
        }
        return set;
    }

    private static void listedAndGreatest(int[] ground, int[] laws) {
        SumBench x = made(ground, laws);
        int size = x.greatest(0, MOST_LOOKS);
        int many = x.list(MOST_LOOKS);
        Due.is(told("look(4)", ground, laws), x.look(4), many);
        List<Integer> before = null;
        for (int i = 0; i < Math.min(many, 15); i++) {
            Due.is(told("size of listed", ground, laws), x.listed(1, i), size);
            Due.is(told("clash of listed", ground, laws), x.clash(1), SumBench.NONE);
            List<Integer> set = read(x, 1);
            if (before == null) {
                Due.same(told("the first listed", ground, laws), set.toString(), read(x, 0).toString());
            } else {
                Due.is(told("ORDER", ground, laws), isAhead(before, set), true);
            }
            before = set;
        }
        Due.is(told("one behind the last", ground, laws), x.listed(1, many), SumBench.NONE);
    }

    private static void kindsAndListed(int[] ground, int[] laws) {
        for (int turns = 0; turns < 8; turns++) {
            SumBench x = made(ground, laws);
            int many = x.list(MOST_LOOKS);
            int kinds = x.kinds(turns);
            int together = 0;
            int before = -1;
            for (int i = 0; i < kinds; i++) {
                int first = x.kind(turns, i, 0);
                Due.is(told("first ones rise", ground, laws), first > before, true);
                before = first;
                together += x.kind(turns, i, 1);
            }
            Due.is(told("all kinds by " + turns, ground, laws), together, many);
            Due.is(told("the first kind", ground, laws), x.kind(turns, 0, 0), 0);
            Due.is(told("one kind more", ground, laws), x.kind(turns, kinds, 1), SumBench.NONE);
        }
    }

    /** How many TURNS there are: those that take x a-fold, times those that move it. */
    private static int turnsOf(int[] ground, int turns) {
        int n = ground[1];
        int moves = ground[0] == 0 || (turns & 2) == 0 ? 1 : ground[0] == 1 ? n : n == 1 ? 3 : 9;
        if (ground[0] != 1) {
            return (turns & 1) == 0 || ground[0] == 0 && n == 1 ? moves : 2 * moves;
        }
        int factors = 0;
        for (int a = 1; a <= n; a++) {
            boolean told = (turns & 4) != 0 ? BigInteger.valueOf(a).gcd(BigInteger.valueOf(n)).intValue() == 1
                : a == 1 || a == n - 1 && (turns & 1) != 0;
            factors += told ? 1 : 0;
        }
        return factors * moves;
    }

    /** Where TURNS leave a LAW as it is, all that they make of a set are listed, each by as many TURNS. */
    private static void turnsAndKinds(int[] law) {
        for (int[] ground : GROUNDS) {
            for (int turns = 0; turns < 8; turns++) {
                SumBench x = made(ground, law);
                x.list(MOST_LOOKS);
                int kinds = x.kinds(turns);
                for (int i = 0; i < kinds; i++) {
                    Due.is(told("listed times still, kind " + i + " by " + turns, ground, law),
                        x.kind(turns, i, 1) * x.kind(turns, i, 2), turnsOf(ground, turns));
                }
            }
        }
    }

    private static void roomAndClash(int[] ground, int[] laws) {
        SumBench x = made(ground, laws);
        int[] numbers = numbers(x);
        for (int bits = 0; bits < Math.min(1 << numbers.length, 64); bits += 3) {
            if (bits % 12 == 0) {
                x = made(ground, laws);
            }
            write(x, 2, numbers, bits);
            int want = x.clash(2) == SumBench.NONE ? SumBench.NONE : -2;
            int room = x.room(2);
            for (int i = 0; i < numbers.length && want == SumBench.NONE; i++) {
                if (x.put(2, numbers[i], true)) {
                    want = x.clash(2) == SumBench.NONE ? numbers[i] : want;
                    x.put(2, numbers[i], false);
                }
            }
            Due.is(told("room of " + bits, ground, laws), room, want);
        }
    }

    private static void coloursAndClash(int[] ground, int[] laws) {
        int fewer = 1;
        for (int many = 1; many <= 8; many++) {
            SumBench x = made(ground, laws);
            int answer = x.colours(many, MOST_LOOKS);
            Due.is(told("more colours do not do", ground, laws), answer > fewer, false);
            fewer = answer;
            if (answer == 0) {
                putByColours(x);
                for (int k = 0; k < 8; k++) {
                    Due.is(told("clash of a colour", ground, laws), x.clash(k), SumBench.NONE);
                    Due.is(told("a colour more than told", ground, laws), k >= many && x.size(k) > 0, false);
                }
            }
        }
    }

    /** SET k has the numbers of COLOUR k; a COLOUR is new only behind all that are ahead of it. */
    private static void putByColours(SumBench x) {
        int next = 0;
        for (int number : numbers(x)) {
            int colour = x.colour(number);
            Due.is("a colour that is left out", colour > next, false);
            next = Math.max(next, colour + 1);
            for (int k = 0; k < 8; k++) {
                x.put(k, number, k == colour);
            }
        }
    }

    private static void forcedAndColours(int[] laws) {
        for (int many = 1; many <= 3; many++) {
            SumBench x = made(new int[] {0, 12}, laws);
            int forced = x.forced(many, MOST_LOOKS);
            int looks = x.look(5);
            int together = 0;
            for (int m = 1; m <= Math.min(forced, 12); m++) {
                lay(x, new int[] {0, m}, laws);
                Due.is("colours of 1 .. " + m, x.colours(many, MOST_LOOKS), m == forced ? 1 : 0);
                together += x.look(5);
            }
            Due.is("looks of forced", looks, together);
        }
    }

    private static void keepIsFull(int[] ground, int[] laws) {
        SumBench x = made(ground, laws);
        int greatest = x.greatest(0, MOST_LOOKS);
        for (int seed = 0; seed < 65536; seed += 9000) {
            int size = x.keep(1, seed);
            Due.is(told("size", ground, laws), x.size(1), size);
            Due.is(told("more than a greatest", ground, laws), size > greatest, false);
            Due.is(told("clash", ground, laws), x.clash(1), SumBench.NONE);
            Due.is(told("room", ground, laws), x.room(1), SumBench.NONE);
        }
    }

    /** Sums of two are all unlike, but for their turns: then differences are, too, and rows are the fewest. */
    private static void apartAndSums(int[] ground) {
        SumBench x = made(ground, new int[] {3, 0, 0, 0, 0});
        int s = x.greatest(0, MOST_LOOKS);
        Due.is("sums", x.sums(0, 0, 0, 1), s * (s + 1) / 2);
        Due.is("differences", x.sums(0, 0, 1, 1), s * (s - 1) + 1);
        Due.is("energy", x.energy(0), 2 * s * s - s);
        for (int number : numbers(x)) {
            if (x.put(0, number, true)) {
                Due.is("clash with one more", x.clash(0), 0);
                Due.is("energy with one more", x.energy(0) > 2 * (s + 1) * (s + 1) - (s + 1), true);
                x.put(0, number, false);
            }
        }
    }

    /** A set without x + y = z is one with which its sums have nothing in common. */
    private static void sumLawAndSums(int[] ground) {
        SumBench x = made(ground, new int[] {1, 0, 0, 0, 0});
        int[] numbers = numbers(x);
        for (int seed = 0; seed < 10; seed++) {
            x.keep(0, seed);
            x.sums(0, 0, 0, 1);
            for (int number : numbers) {
                Due.is("in a set and in its sums", x.has(0, number) && x.has(1, number), false);
            }
        }
    }

    /** order() is how often a set comes to itself, till all numbers are had. */
    private static void orderAndSums() {
        int[][] sets = {{1}, {1, 2}, {1, 3, 4}, {1, 4, 9}, {1, 5, 7, 11}, {1, 2, 3, 4, 5, 6, 7, 8, 9, 10, 11, 12}};
        for (int[] set : sets) {
            SumBench x = Due.withSet(0, 12, set);
            Due.put(x, 1, set);
            int h = 1;
            while (x.size(1) < 12 && h < 20) {
                x.sums(1, 0, 0, 2);
                join(x, 2);
                h++;
            }
            Due.is("order of " + Due.set(x, 0), x.order(0), h);
        }
    }

    /** SET 1 has the numbers of SET k, too. */
    private static void join(SumBench x, int k) {
        for (int number : read(x, k)) {
            x.put(1, number, true);
        }
    }

    /** What an object with these LAWS answers to calls of many promises. */
    private static String answers(SumBench x) {
        StringBuilder text = new StringBuilder();
        text.append(x.count(MOST_LOOKS)).append(' ').append(x.greatest(0, MOST_LOOKS)).append(Due.set(x, 0));
        text.append(x.look(5)).append(' ').append(x.list(MOST_LOOKS)).append(' ').append(x.look(5));
        for (int turns = 7; turns >= 0; turns--) {
            text.append(' ').append(x.kinds(turns));
        }
        // The TURNS asked for last are those asked for first in another listing: nothing of this one may be told there.
        text.append(' ').append(x.kinds(7));
        text.append(' ').append(x.colours(2, MOST_LOOKS)).append(' ').append(x.look(5)).append(Due.colouring(x));
        text.append(' ').append(x.keep(1, 77)).append(Due.set(x, 1)).append(x.room(1));
        text.append(' ').append(x.sums(0, 1, 2, 2)).append(Due.set(x, 2)).append(x.energy(2));
        write(x, 3, numbers(x), -1);
        int law = x.clash(3);
        return text.append(' ').append(law).append(law == SumBench.NONE ? "" : Due.witness(x)).toString();
    }

    private static void behindAnotherGround(int[] ground, int[] laws) {
        SumBench x = made(new int[] {2, 2}, new int[] {3, 0, 0, 0, 0, 0, 3, 0, 0, 0});
        answers(x);
        x.colours(8, MOST_LOOKS);
        lay(x, ground, laws);
        Due.is("look(4)", x.look(4), 0);
        Due.same("colours", Due.colouring(x), "");
        Due.throwsIt("witness(0)", NoSuchElementException.class, () -> x.witness(0));
        for (int k = 0; k < 8; k++) {
            Due.is("size", x.size(k), 0);
        }
        Due.same(told("answers", ground, laws), answers(x), answers(made(ground, laws)));
    }

    /** Each LAW counts from the call on that tells it, also where a search was made by those ahead of it. */
    private static void lawsOneByOne(int[] ground, int[] laws) {
        SumBench x = made(ground, new int[] {});
        for (int i = 0; i < laws.length; i += 5) {
            x.count(MOST_LOOKS);
            x.list(MOST_LOOKS);
            x.kinds(7);
            tellLaw(x, laws, i);
        }
        Due.same(told("answers", ground, laws), answers(x), answers(made(ground, laws)));
    }

    /** The calls ahead of the drop() leave no COLOURS: those would stay. */
    private static void behindOtherLaws(int[] ground, int[] laws) {
        SumBench x = made(ground, new int[] {4, 3, -2, 0, 1, 2, 0, 0, 0, 0, 0, 3, 0, 0, 0});
        x.greatest(0, 3);
        x.list(MOST_LOOKS);
        x.kinds(7);
        x.forced(2, MOST_LOOKS);
        x.keep(1, 5);
        Due.is("drop", x.drop(), 3);
        tellLaws(x, laws);
        Due.same(told("answers", ground, laws), answers(x), answers(made(ground, laws)));
    }

    /** A LAW more is a LAW for all that is asked from then on, not for what was found before. */
    private static void oneLawMore() {
        SumBench x = made(new int[] {0, 9}, new int[] {1, 0, 0, 0, 0});
        Due.is("greatest", x.greatest(0, MOST_LOOKS), 5);
        Due.same("its set", Due.set(x, 0), "(1 3 5 7 9)");
        Due.is("list", x.list(MOST_LOOKS), 2);
        Due.is("colours", x.colours(3, MOST_LOOKS), 0);
        String colours = Due.colouring(x);
        Due.is("clash", x.clash(0), SumBench.NONE);
        Due.is("law", x.law(0, 3, 0, 0, false), 1);
        Due.is("clash by then", x.clash(0), 1);
        Due.same("its numbers", Due.witness(x), "(1 3 0 0)");
        Due.is("room by then", x.room(0), -2);
        Due.is("listed yet", x.look(4), 2);
        Due.is("the first listed yet", x.listed(1, 0), 5);
        Due.same("its set yet", Due.set(x, 1), "(1 3 5 7 9)");
        Due.same("colours yet", Due.colouring(x), colours);
        Due.is("drop", x.drop(), 2);
        Due.is("clash without laws", x.clash(0), SumBench.NONE);
        Due.same("the numbers of the latest that was not NONE", Due.witness(x), "(1 3 0 0)");
        Due.is("greatest without laws", x.greatest(0, MOST_LOOKS), 9);
        Due.is("list without laws", x.list(MOST_LOOKS), 1);
        Due.is("kinds without laws", x.kinds(1), 1);
    }

    /** The tape stays where the GROUND goes, and its numbers are held against the GROUND of the time. */
    private static void tapeAndGround() {
        SumBench x = new SumBench();
        Due.is("feed", x.feed(3, 20, 3, 8, 0), 20);
        Due.is("ground", x.ground(1, 21), true);
        Due.is("look(6)", x.look(6), 20);
        Due.is("sheet of rests", x.sheet(2, 2), 4);
        Due.same("its set", Due.set(x, 2), "(0 3 8 20)");
        Due.is("feed again", x.feed(3, 20, 3, 8, 0), 20);
        Due.is("ground of numbers", x.ground(0, 60), true);
        Due.is("sheet of numbers", x.sheet(2, 2), -17);
        Due.same("the set that ground() made empty", Due.set(x, 2), "()");
        Due.is("look(6) behind it", x.look(6), 0);
    }

    /** Calls that search do not share LOOKS, and those that do not search leave look(5). */
    private static void looksOfEach() {
        SumBench x = made(new int[] {0, 8}, new int[] {0, 3, 0, 0, 0});
        x.count(MOST_LOOKS);
        int counted = x.look(5);
        x.greatest(0, MOST_LOOKS);
        int greatest = x.look(5);
        x.list(MOST_LOOKS);
        int listed = x.look(5);
        Due.is("greatest within list", listed > greatest, true);
        Due.is("list that is SPENT at once", x.list(greatest - 1), SumBench.NONE);
        Due.is("its looks", x.look(5), greatest - 1);
        Due.is("list that is SPENT later", x.list(Math.max(greatest, listed - greatest - 1)), SumBench.NONE);
        Due.is("its looks", x.look(5), greatest + Math.max(greatest, listed - greatest - 1));
        Due.is("count that is SPENT", x.count(counted - 1), SumBench.NONE);
        Due.is("its looks", x.look(5), counted - 1);
        Due.is("count", x.count(counted), 106);
        x.clash(0);
        x.room(0);
        x.keep(1, 1);
        x.kinds(1);
        x.sums(0, 1, 0, 2);
        x.drop();
        x.ground(0, 5);
        Due.is("look(5) behind calls that do not search", x.look(5), counted);
    }

    private static void searches() {
        everywhere("20, 15, 16 and 12: count, greatest and list find what clash() lets pass",
            MeetingTest::searchesAndClash);
        everywhere("15, 12 and 14: the best KEEPS the LAWS and is full", MeetingTest::greatestIsFull);
        everywhere("15, 16, 17 and 12: sets listed are as great as the best, in ORDER", MeetingTest::listedAndGreatest);
        everywhere("16, 18 and 19: each set listed is of one KIND", MeetingTest::kindsAndListed);
        everywhere("14 and 12: room() is the least number that clash() lets in", MeetingTest::roomAndClash);
        everywhere("21, 22 and 12: all of one COLOUR KEEP the LAWS", MeetingTest::coloursAndClash);
        everywhere("27, 12, 14 and 15: what is kept is full and no greater than the best", MeetingTest::keepIsFull);
        Due.sentence("23, 21 and 28: forced() is the first that colours() can't part", () -> {
            for (int[] laws : LAWS) {
                forcedAndColours(laws);
            }
        });
        Due.sentence("18 and 19: TURNS that leave a set, times sets made of it, are all TURNS", () -> {
            turnsAndKinds(new int[] {0, 3, 0, 0, 0});
            turnsAndKinds(new int[] {0, 5, 0, 0, 0});
            turnsAndKinds(new int[] {3, 0, 0, 0, 0});
        });
    }

    private static void others() {
        Due.sentence("15, 24 and 25: a set that is APART has the most sums and the least energy", () -> {
            for (int[] ground : GROUNDS) {
                apartAndSums(ground);
            }
        });
        Due.sentence("27 and 24: a set that KEEPS SUM has none of its sums", () -> {
            for (int[] ground : GROUNDS) {
                sumLawAndSums(ground);
            }
        });
        Due.sentence("26 and 24: order() is how many sums it takes", MeetingTest::orderAndSums);
        everywhere("4 and all: nothing of an earlier GROUND is left", MeetingTest::behindAnotherGround);
        everywhere("11, 10 and all: nothing of earlier LAWS is left", MeetingTest::behindOtherLaws);
        everywhere("10 and all: a LAW counts from then on", MeetingTest::lawsOneByOne);
        Due.sentence("10, 11 and all: one LAW more", MeetingTest::oneLawMore);
        Due.sentence("2, 4 and 5: the tape and the GROUND", MeetingTest::tapeAndGround);
        Due.sentence("28 and all searches: LOOKS", MeetingTest::looksOfEach);
    }

    public static void main(String[] args) {
        searches();
        others();
        Due.end("MeetingTest");
    }
}
