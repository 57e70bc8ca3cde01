import java.util.Arrays;
import java.util.Map;
import java.util.TreeMap;
import java.util.TreeSet;

/**
 * Shows what a call changes and what stays: two benches are made by the same calls, one of them gets the call,
 * and then all that can be asked is asked of both. Each gets fewer calls than the 512 that the document grants.
 */
final class Twins {
    static final String NO_SET = "throws IndexOutOfBoundsException";
    static final String NOT_ALLOWED = "throws IllegalArgumentException";
    static final String NONE_SUCH = "throws NoSuchElementException";

    interface Maker {
        SumBench make();
    }

    interface Act {
        long on(SumBench x);
    }

    private Twins() {
    }

    /** Numbers 1 .. 6 with something of all that a call may change; look(5) is 11, that of a search which was SPENT. */
    static SumBench laid() {
        SumBench x = new SumBench();
        x.ground(0, 6);
        fill(x);
        return x;
    }

    /** The same of the rests by 7. */
    static SumBench laidOfRests() {
        SumBench x = new SumBench();
        x.ground(1, 7);
        fill(x);
        return x;
    }

    private static void fill(SumBench x) {
        x.law(1, 0, 0, 0, true);
        x.law(0, 3, 0, 0, false);
        int[][] sets = {{1, 2, 3}, {4, 5}, {3}, {1, 2, 3, 4, 5, 6}, {5}, {6}, {2, 5}, {1, 6}};
        for (int k = 0; k < sets.length; k++) {
            for (int number : sets[k]) {
                x.put(k, number, true);
            }
        }
        x.list(5000);
        x.colours(4, 5000);
        x.clash(0);
        x.count(11);
        x.feed(1, 2, 3, 4, 5);
    }

    /** The call answers or throws what is due, and of the parts below it changes just those told. */
    static void changes(String call, Maker maker, Act act, String want, String... parts) {
        SumBench one = maker.make();
        SumBench other = maker.make();
        Due.same(call, Due.outcome(() -> act.on(one)), want);
        Map<String, String> now = parts(one);
        Map<String, String> before = parts(other);
        TreeSet<String> changed = new TreeSet<>();
        for (String part : before.keySet()) {
            if (!now.get(part).equals(before.get(part))) {
                changed.add(part);
            }
        }
        Due.same("what is changed by " + call, changed.toString(), new TreeSet<>(Arrays.asList(parts)).toString());
    }

    /** The same, with numbers 1 .. 6 of all that there is. */
    static void changes(String call, Act act, String want, String... parts) {
        changes(call, Twins::laid, act, want, parts);
    }

    /** What reads a part spoils others, so all are read in this order. */
    private static Map<String, String> parts(SumBench x) {
        Map<String, String> parts = new TreeMap<>();
        parts.put("ground", x.look(0) + " " + x.look(1) + " " + x.look(2));
        parts.put("looks", "" + x.look(5));
        for (int k = 0; k < 8; k++) {
            parts.put("set " + k, Due.set(x, k));
        }
        parts.put("witness", Due.outcome(() -> x.witness(0)) + " " + Due.outcome(() -> x.witness(1)) + " "
            + Due.outcome(() -> x.witness(2)) + " " + Due.outcome(() -> x.witness(3)));
        parts.put("colours", Due.colouring(x));
        parts.put("listing", listing(x));
        parts.put("tape", x.look(6) + " " + x.sheet(7, 2) + Due.set(x, 7));
        parts.put("laws", laws(x));
        return parts;
    }

    private static String listing(SumBench x) {
        StringBuilder text = new StringBuilder();
        text.append(x.look(4));
        for (int i = 0; x.listed(7, i) != -1; i++) {
            text.append(Due.set(x, 7));
        }
        for (int turns = 0; turns < 8; turns++) {
            text.append(' ').append(x.kinds(turns));
        }
        return text.toString();
    }

    /** LAWS show in how many sets KEEP them, and in the first CLASH of a set that has all numbers. */
    private static String laws(SumBench x) {
        int many = x.look(3);
        int kept = x.count(50000);
        int looks = x.look(5);
        for (int y = 0; y <= x.look(1); y++) {
            x.put(7, y, true);
        }
        int law = x.clash(7);
        return many + " " + kept + " " + looks + " " + law + (law == -1 ? "" : Due.witness(x));
    }
}
