import java.lang.reflect.InvocationTargetException;
import java.lang.reflect.Method;
import java.util.ArrayList;
import java.util.Arrays;
import java.util.List;

/** Promises 1 to 28: runs of many calls, right and wrong ones, which a SumBench and a SlowBench must answer alike. */
public final class AgainstSlowTest {
    private static final int RUNS = 2000;
    /** As many as the document grants an object. */
    private static final int CALLS = 512;
    private static final int[] ODD = {-1, 8, 9, 61, 64, 65, 300, -64, Integer.MIN_VALUE, Integer.MAX_VALUE};
    private static final int[] ODD_LOOKS = {0, -1, 50001, Integer.MIN_VALUE, Integer.MAX_VALUE};
    private static final String[] OFTEN = {
        "put", "put", "put", "put", "law", "law", "law", "law", "clash", "clash", "clash", "witness", "room", "room",
        "greatest", "list", "list", "listed", "kinds", "kind", "kind", "kind", "count", "colours", "colour", "forced",
        "sums", "sums", "energy", "order", "keep", "keep", "feed", "end", "sheet", "sheet", "has", "size", "at", "drop",
        "ground", "look"
    };
    private static final String[] STATE = {
        "size", "size", "has", "has", "at", "at", "look", "look", "look", "witness", "colour"
    };

    private final SumBench bench = new SumBench();
    private final SlowBench slow = new SlowBench();
    private final List<String> told = new ArrayList<>();
    private long seed;
    private int sort;
    private int n;

    private AgainstSlowTest(long seed) {
        this.seed = seed;
    }

    /** A whole number from 0 to below the bound, the same in every run of the test. */
    private int pick(int bound) {
        seed = seed * 6364136223846793005L + 1442695040888963407L;
        return (int) Long.remainderUnsigned(seed >>> 33, bound);
    }

    private int pick(int low, int high) {
        return low + pick(high - low + 1);
    }

    private int odd(int[] of, int other) {
        return pick(25) == 0 ? of[pick(of.length)] : other;
    }

    private int number() {
        int last = sort == 0 ? n : sort == 1 ? n - 1 : n == 1 ? 2 : n == 2 ? 8 : 26;
        return odd(ODD, pick(0, last + (pick(10) == 0 ? 1 : 0)));
    }

    private int set() {
        return odd(ODD, pick(pick(3) == 0 ? 8 : 3));
    }

    private int looks() {
        switch (pick(6)) {
            case 0: return odd(ODD_LOOKS, pick(1, 10));
            case 1: return odd(ODD_LOOKS, pick(1, 100));
            default: return odd(ODD_LOOKS, pick(100, 2500));
        }
    }

    private int fedNumber(int width) {
        int x = number();
        switch (width) {
            case 0: return number() << 24 | (number() & 255) << 16 | (number() & 255) << 8 | x & 255;
            case 1: return number() << 16 | x & 65535;
            case 2: return x;
            default: return pick(2) == 0 ? 0 : x;
        }
    }

    private Object[] lawArgs() {
        int kind = odd(ODD, pick(5));
        if (kind == 0) {
            return new Object[] {0, odd(ODD, pick(2, 7)), pick(3), pick(3), pick(2) == 0};
        }
        int most = pick(3) == 0 ? 10 : 3;
        return new Object[] {kind, pick(-most, most), pick(-most, most), pick(-most, most), pick(2) == 0};
    }

    private Object[] groundArgs() {
        int newSort = pick(20) == 0 ? pick(-1, 3) : pick(3);
        int most = pick(4) != 0 ? 12 : pick(8) != 0 ? 20 : 61;
        int newN = newSort == 2 ? pick(0, pick(3) == 0 ? 4 : 2) : pick(pick(3) == 0 ? 0 : 3, most);
        return new Object[] {newSort, odd(ODD, newN)};
    }

    private Object[] arguments(String name) {
        switch (name) {
            case "feed": {
                int width = pick(4);
                int high = pick(4) == 0 ? -1 : 0;
                return new Object[] {fedNumber(width), fedNumber(width), width == 3 ? high : fedNumber(width),
                    fedNumber(width), width == 3 ? 0 : fedNumber(width)};
            }
            case "end": return new Object[] {odd(ODD, pick(4 * pick(1, 8)))};
            case "ground": return groundArgs();
            case "sheet": return new Object[] {set(), pick(12) == 0 ? pick(-1, 4) : pick(4)};
            case "put": return new Object[] {set(), number(), pick(4) != 0};
            case "has": return new Object[] {set(), number()};
            case "at": return new Object[] {set(), odd(ODD, pick(6))};
            case "law": return lawArgs();
            case "drop": return new Object[] {};
            case "witness": return new Object[] {odd(ODD, pick(5))};
            case "greatest": return new Object[] {set(), looks()};
            case "list":
            case "count": return new Object[] {looks()};
            case "listed": return new Object[] {set(), odd(ODD, pick(12))};
            case "kinds": return new Object[] {odd(ODD, pick(8))};
            case "kind": return new Object[] {odd(ODD, pick(8)), odd(ODD, pick(4)), odd(ODD, pick(3))};
            case "colours":
            case "forced": return new Object[] {odd(ODD, pick(3) == 0 ? pick(0, 9) : pick(1, 4)), looks()};
            case "colour": return new Object[] {number()};
            case "sums": return new Object[] {set(), set(), odd(ODD, pick(3)), set()};
            case "keep": return new Object[] {set(), pick(10) == 0 ? pick(-1, 1) + 65536 * pick(2) : pick(65536)};
            case "look": return new Object[] {odd(ODD, pick(8))};
            default: return new Object[] {set()};
        }
    }

    private static String outcome(Object bench, Method method, Object[] args) {
        try {
            return String.valueOf(method.invoke(bench, args));
        } catch (InvocationTargetException e) {
            return "throws " + e.getCause().getClass().getSimpleName();
        } catch (IllegalAccessException e) {
            return "can't be called";
        }
    }

    private static Method find(Class<?> of, String name) {
        for (Method method : of.getMethods()) {
            if (method.getName().equals(name)) {
                return method;
            }
        }
        throw new IllegalStateException(of.getSimpleName() + " has no " + name);
    }

    /** One call of both; false, if they do not answer alike. */
    private boolean ask(String name) {
        sort = slow.look(0);
        n = slow.look(1);
        Object[] args = arguments(name);
        told.add(name + Arrays.toString(args));
        String want = outcome(slow, find(SlowBench.class, name), args);
        String got = outcome(bench, find(SumBench.class, name), args);
        boolean alike = got.equals(want);
        Due.same(alike ? name : "the last of " + told, got, want);
        return alike;
    }

    /** Some state is asked for behind every call, so that a call that throws is seen to change nothing. */
    private void run() {
        boolean alike = true;
        for (int call = 0; call < CALLS && alike; call++) {
            if (call % 4 != 0) {
                alike = ask(STATE[pick(STATE.length)]);
            } else {
                alike = ask(call == 0 && pick(5) != 0 ? "ground" : OFTEN[pick(OFTEN.length)]);
            }
        }
    }

    public static void main(String[] args) {
        int runs = args.length > 0 ? Integer.parseInt(args[0]) : RUNS;
        int from = args.length > 1 ? Integer.parseInt(args[1]) : 0;
        for (int i = from; i < from + runs; i++) {
            new AgainstSlowTest(i * 7919L + 1).run();
        }
        Due.end("AgainstSlowTest");
    }
}
