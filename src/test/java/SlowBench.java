import java.util.ArrayList;
import java.util.Arrays;
import java.util.HashSet;
import java.util.List;
import java.util.NoSuchElementException;
import java.util.Set;
import java.util.TreeMap;
import java.util.TreeSet;

/**
 * The document done again in the slowest and plainest way, to compare SumBench with: every CLASH of the
 * GROUND is written down, every set is looked at against all of them, searches call themselves, and TURNS
 * are rows of numbers put behind one another till no new one comes.
 */
final class SlowBench {
    private static final class Spent extends RuntimeException {
        private static final long serialVersionUID = 1L;
    }

    private static final class Overfull extends RuntimeException {
        private static final long serialVersionUID = 1L;
    }

    private static final class Clash {
        final int law;
        final int[] told;
        final long members;

        Clash(int law, int[] told, int... members) {
            this.law = law;
            this.told = told;
            long mask = 0;
            for (int x : members) {
                mask |= 1L << x;
            }
            this.members = mask;
        }
    }

    private int sort = 0;
    private int n = 20;
    private final List<Integer> numbers = new ArrayList<>();
    private final List<int[]> laws = new ArrayList<>();
    private final List<Clash> clashes = new ArrayList<>();
    private final List<TreeSet<Integer>> sets = new ArrayList<>();
    private final List<TreeSet<Integer>> listed = new ArrayList<>();
    private final List<Byte> tape = new ArrayList<>();
    private int[] witness = null;
    private TreeMap<Integer, Integer> colours = null;
    private int looked = 0;
    private int looksLeft = 0;
    private TreeSet<Integer> best = null;
    private int sizeListed = 0;
    private int counted = 0;

    SlowBench() {
        ground(0, 20);
    }

    // ---- the GROUND

    private int[] rests(int x) {
        return new int[] {x % 3, x / 3 % 3, x / 9 % 3};
    }

    private int number(int[] rests) {
        return Math.floorMod(rests[0], 3) + 3 * Math.floorMod(rests[1], 3) + 9 * Math.floorMod(rests[2], 3);
    }

    private int add(int x, int y) {
        if (sort == 2) {
            int[] p = rests(x);
            int[] q = rests(y);
            return number(new int[] {p[0] + q[0], p[1] + q[1], p[2] + q[2]});
        }
        return sort == 1 ? Math.floorMod(x + y, n) : x + y;
    }

    private int many(int a, int x) {
        if (sort == 2) {
            int[] p = rests(x);
            return number(new int[] {a * p[0], a * p[1], a * p[2]});
        }
        return sort == 1 ? Math.floorMod(a * x, n) : a * x;
    }

    private int product(int x, int y) {
        if (sort == 2) {
            int[] p = rests(x);
            int[] q = rests(y);
            return number(new int[] {p[0] * q[0], p[1] * q[1], p[2] * q[2]});
        }
        return sort == 1 ? Math.floorMod(x * y, n) : x * y;
    }

    public boolean ground(int newSort, int newN) {
        boolean fits = newSort == 0 && newN >= 1 && newN <= 60
            || newSort == 1 && newN >= 2 && newN <= 60
            || newSort == 2 && newN >= 1 && newN <= 3;
        if (!fits) {
            return false;
        }
        sort = newSort;
        n = newN;
        numbers.clear();
        int from = sort == 0 ? 1 : 0;
        int to = sort == 0 ? n : sort == 1 ? n - 1 : (int) Math.round(Math.pow(3, n)) - 1;
        for (int x = from; x <= to; x++) {
            numbers.add(x);
        }
        laws.clear();
        clashes.clear();
        sets.clear();
        for (int k = 0; k < 8; k++) {
            sets.add(new TreeSet<>());
        }
        listed.clear();
        witness = null;
        colours = null;
        return true;
    }

    // ---- the tape and the SETS

    private TreeSet<Integer> set(int k) {
        if (k < 0 || k > 7) {
            throw new IndexOutOfBoundsException();
        }
        return sets.get(k);
    }

    public int feed(int a, int b, int c, int d, int e) {
        if (tape.size() > 480) {
            return -1;
        }
        for (int x : new int[] {a, b, c, d, e}) {
            for (byte part : java.nio.ByteBuffer.allocate(4).putInt(x).array()) {
                tape.add(part);
            }
        }
        return tape.size();
    }

    public boolean end(int many) {
        if (many < 0 || many > tape.size()) {
            return false;
        }
        tape.subList(many, tape.size()).clear();
        return true;
    }

    public int sheet(int k, int width) {
        set(k);
        if (width < 0 || width > 3) {
            throw new IllegalArgumentException();
        }
        int bytes = new int[] {1, 2, 4, 8}[width];
        List<Byte> read = new ArrayList<>(tape);
        tape.clear();
        TreeSet<Integer> made = new TreeSet<>();
        for (int place = 0; place < read.size(); place += bytes) {
            if (place + bytes > read.size()) {
                return -1 - place;
            }
            byte[] parts = new byte[bytes];
            for (int i = 0; i < bytes; i++) {
                parts[i] = read.get(place + i);
            }
            java.math.BigInteger x = new java.math.BigInteger(parts);
            if (x.bitLength() > 31 || !numbers.contains(x.intValue())) {
                return -1 - place;
            }
            made.add(x.intValue());
        }
        sets.set(k, made);
        return made.size();
    }

    public boolean put(int k, int x, boolean on) {
        TreeSet<Integer> set = set(k);
        return numbers.contains(x) && (on ? set.add(x) : set.remove(x));
    }

    public boolean has(int k, int x) {
        return set(k).contains(x);
    }

    public int size(int k) {
        return set(k).size();
    }

    public int at(int k, int i) {
        List<Integer> row = new ArrayList<>(set(k));
        if (i < 0 || i >= row.size()) {
            throw new NoSuchElementException();
        }
        return row.get(i);
    }

    // ---- LAWS

    public int law(int kind, int a, int b, int c, boolean unlike) {
        boolean fits = kind >= 0 && kind <= 4;
        if (kind == 0) {
            fits = a >= 3 && a <= 6;
        }
        if (kind == 4) {
            fits = Math.abs((long) a) <= 9 && Math.abs((long) b) <= 9 && Math.abs((long) c) <= 9
                && (a != 0 && b != 0 || a != 0 && c != 0 || b != 0 && c != 0);
        }
        if (!fits || laws.size() == 6) {
            return -1;
        }
        laws.add(new int[] {kind, a, b, c, unlike ? 1 : 0});
        int place = laws.size() - 1;
        List<Clash> added = new ArrayList<>();
        switch (kind) {
            case 0: writeRows(place, a, added); break;
            case 3: writeApart(place, added); break;
            default: writeThrees(place, laws.get(place), added); break;
        }
        added.sort((p, q) -> Arrays.compare(p.told, q.told));
        clashes.addAll(added);
        return place;
    }

    private void writeRows(int law, int length, List<Clash> added) {
        for (int x : numbers) {
            for (int d : numbers) {
                int[] row = new int[length];
                Set<Integer> unlike = new HashSet<>();
                row[0] = x;
                for (int i = 1; i < length; i++) {
                    row[i] = add(row[i - 1], d);
                }
                for (int y : row) {
                    unlike.add(y);
                }
                if (unlike.size() == length && numbers.containsAll(unlike)) {
                    added.add(new Clash(law, new int[] {x, row[1], 0, 0}, row));
                }
            }
        }
    }

    private void writeApart(int law, List<Clash> added) {
        for (int x : numbers) {
            for (int y : numbers) {
                for (int u : numbers) {
                    for (int v : numbers) {
                        if (x <= y && u <= v && !(x == u && y == v) && add(x, y) == add(u, v)) {
                            added.add(new Clash(law, new int[] {x, y, u, v}, x, y, u, v));
                        }
                    }
                }
            }
        }
    }

    private void writeThrees(int law, int[] told, List<Clash> added) {
        boolean equation = told[0] == 4;
        boolean xIn = !equation || told[1] != 0;
        boolean yIn = !equation || told[2] != 0;
        boolean zIn = !equation || told[3] != 0;
        for (int x : xIn ? numbers : List.of(0)) {
            for (int y : yIn ? numbers : List.of(0)) {
                for (int z : zIn ? numbers : List.of(0)) {
                    boolean alike = xIn && yIn && x == y || xIn && zIn && x == z || yIn && zIn && y == z;
                    if (!(told[4] == 1 && alike) && fits(told, x, y, z)) {
                        int one = xIn ? x : y;
                        added.add(new Clash(law, new int[] {x, y, z, 0}, one, yIn ? y : one, zIn ? z : one));
                    }
                }
            }
        }
    }

    private boolean fits(int[] told, int x, int y, int z) {
        switch (told[0]) {
            case 1: return add(x, y) == z;
            case 2: return product(x, y) == z;
            default: return add(add(many(told[1], x), many(told[2], y)), many(told[3], z)) == 0;
        }
    }

    public int drop() {
        int gone = laws.size();
        laws.clear();
        clashes.clear();
        return gone;
    }

    private Clash firstClash(Set<Integer> set) {
        long mask = 0;
        for (int x : set) {
            mask |= 1L << x;
        }
        for (Clash clash : clashes) {
            if ((clash.members & ~mask) == 0) {
                return clash;
            }
        }
        return null;
    }

    private boolean keeps(Set<Integer> set) {
        return firstClash(set) == null;
    }

    private boolean keepsWith(Set<Integer> set, int x) {
        TreeSet<Integer> more = new TreeSet<>(set);
        more.add(x);
        return keeps(more);
    }

    public int clash(int k) {
        Clash first = firstClash(set(k));
        if (first == null) {
            return -1;
        }
        witness = first.told;
        return first.law;
    }

    public int witness(int i) {
        if (witness == null || i < 0 || i > 3) {
            throw new NoSuchElementException();
        }
        return witness[i];
    }

    public int room(int k) {
        if (!keeps(set(k))) {
            return -2;
        }
        for (int x : numbers) {
            if (!set(k).contains(x) && keepsWith(set(k), x)) {
                return x;
            }
        }
        return -1;
    }

    // ---- searches

    private void needLooks(int looks) {
        if (looks < 1 || looks > 50000) {
            throw new IllegalArgumentException();
        }
    }

    private void lookOnce() {
        if (looksLeft == 0) {
            throw new Spent();
        }
        looksLeft--;
        looked++;
    }

    private void searchBest(TreeSet<Integer> in, int place) {
        lookOnce();
        if (in.size() + numbers.size() - place <= (best == null ? -1 : best.size())) {
            return;
        }
        if (place == numbers.size()) {
            best = new TreeSet<>(in);
            return;
        }
        int x = numbers.get(place);
        if (keepsWith(in, x)) {
            in.add(x);
            searchBest(in, place + 1);
            in.remove(x);
        }
        searchBest(in, place + 1);
    }

    public int greatest(int k, int looks) {
        set(k);
        needLooks(looks);
        best = null;
        looked = 0;
        looksLeft = looks;
        boolean spent = false;
        try {
            searchBest(new TreeSet<>(), 0);
        } catch (Spent e) {
            spent = true;
        }
        if (best != null) {
            sets.set(k, best);
        }
        int size = best == null ? 0 : best.size();
        return spent ? -1 - size : size;
    }

    private void searchAll(TreeSet<Integer> in, int place) {
        lookOnce();
        if (in.size() + numbers.size() - place < sizeListed) {
            return;
        }
        if (place == numbers.size()) {
            if (listed.size() == 300) {
                throw new Overfull();
            }
            listed.add(new TreeSet<>(in));
            return;
        }
        int x = numbers.get(place);
        if (keepsWith(in, x)) {
            in.add(x);
            searchAll(in, place + 1);
            in.remove(x);
        }
        searchAll(in, place + 1);
    }

    public int list(int looks) {
        needLooks(looks);
        listed.clear();
        best = null;
        looked = 0;
        looksLeft = looks;
        try {
            searchBest(new TreeSet<>(), 0);
            sizeListed = best.size();
            looksLeft = looks;
            searchAll(new TreeSet<>(), 0);
        } catch (Spent e) {
            listed.clear();
            return -1;
        } catch (Overfull e) {
            listed.clear();
            return -2;
        }
        return listed.size();
    }

    public int listed(int k, int i) {
        set(k);
        if (i < 0 || i >= listed.size()) {
            return -1;
        }
        sets.set(k, new TreeSet<>(listed.get(i)));
        return listed.get(i).size();
    }

    private void searchCount(TreeSet<Integer> in, int place) {
        lookOnce();
        if (place == numbers.size()) {
            counted++;
            return;
        }
        int x = numbers.get(place);
        if (keepsWith(in, x)) {
            in.add(x);
            searchCount(in, place + 1);
            in.remove(x);
        }
        searchCount(in, place + 1);
    }

    public int count(int looks) {
        needLooks(looks);
        counted = 0;
        looked = 0;
        looksLeft = looks;
        try {
            searchCount(new TreeSet<>(), 0);
        } catch (Spent e) {
            return -1;
        }
        return counted;
    }

    // ---- TURNS

    private List<List<Integer>> makers(int turns) {
        List<List<Integer>> makers = new ArrayList<>();
        if ((turns & 1) != 0) {
            List<Integer> row = new ArrayList<>();
            for (int x : numbers) {
                row.add(sort == 0 ? n + 1 - x : many(-1, x));
            }
            makers.add(row);
        }
        if ((turns & 2) != 0 && sort != 0) {
            for (int y : sort == 1 ? List.of(1) : numbers) {
                List<Integer> row = new ArrayList<>();
                for (int x : numbers) {
                    row.add(add(x, y));
                }
                makers.add(row);
            }
        }
        if ((turns & 4) != 0 && sort == 1) {
            for (int a : numbers) {
                if (java.math.BigInteger.valueOf(a).gcd(java.math.BigInteger.valueOf(n)).intValue() == 1) {
                    List<Integer> row = new ArrayList<>();
                    for (int x : numbers) {
                        row.add(many(a, x));
                    }
                    makers.add(row);
                }
            }
        }
        return makers;
    }

    private Set<List<Integer>> turns(int bits) {
        List<List<Integer>> makers = makers(bits);
        Set<List<Integer>> all = new HashSet<>();
        List<List<Integer>> open = new ArrayList<>();
        open.add(new ArrayList<>(numbers));
        all.add(open.get(0));
        for (int i = 0; i < open.size(); i++) {
            for (List<Integer> maker : makers) {
                List<Integer> row = new ArrayList<>();
                for (int x : open.get(i)) {
                    row.add(maker.get(numbers.indexOf(x)));
                }
                if (all.add(row)) {
                    open.add(row);
                }
            }
        }
        return all;
    }

    private TreeSet<Integer> turned(Set<Integer> set, List<Integer> turn) {
        TreeSet<Integer> made = new TreeSet<>();
        for (int x : set) {
            made.add(turn.get(numbers.indexOf(x)));
        }
        return made;
    }

    /** Rows of first, how many, how many TURNS leave the first as it is. */
    private List<int[]> kindRows(int bits) {
        if (bits < 0 || bits > 7) {
            throw new IllegalArgumentException();
        }
        Set<List<Integer>> turns = turns(bits);
        List<int[]> rows = new ArrayList<>();
        List<Set<TreeSet<Integer>>> orbits = new ArrayList<>();
        for (int i = 0; i < listed.size(); i++) {
            int home = -1;
            for (int r = 0; r < rows.size() && home < 0; r++) {
                home = orbits.get(r).contains(listed.get(i)) ? r : -1;
            }
            if (home >= 0) {
                rows.get(home)[1]++;
                continue;
            }
            Set<TreeSet<Integer>> orbit = new HashSet<>();
            int still = 0;
            for (List<Integer> turn : turns) {
                TreeSet<Integer> made = turned(listed.get(i), turn);
                orbit.add(made);
                still += made.equals(listed.get(i)) ? 1 : 0;
            }
            orbits.add(orbit);
            rows.add(new int[] {i, 1, still});
        }
        return rows;
    }

    public int kinds(int bits) {
        return kindRows(bits).size();
    }

    public int kind(int bits, int i, int what) {
        List<int[]> rows = kindRows(bits);
        return i < 0 || i >= rows.size() || what < 0 || what > 2 ? -1 : rows.get(i)[what];
    }

    // ---- COLOURS

    private boolean part(int place, int last, int many, TreeMap<Integer, Integer> given) {
        lookOnce();
        if (place == last) {
            return true;
        }
        int x = numbers.get(place);
        int used = new HashSet<>(given.values()).size();
        for (int colour = 0; colour <= used && colour < many; colour++) {
            TreeSet<Integer> group = new TreeSet<>();
            for (int y : given.keySet()) {
                if (given.get(y) == colour) {
                    group.add(y);
                }
            }
            if (keepsWith(group, x)) {
                given.put(x, colour);
                if (part(place + 1, last, many, given)) {
                    return true;
                }
                given.remove(x);
            }
        }
        return false;
    }

    private int partOnce(int last, int many, int looks, TreeMap<Integer, Integer> given) {
        looksLeft = looks;
        try {
            return part(0, last, many, given) ? 0 : 1;
        } catch (Spent e) {
            return 2;
        }
    }

    private void needColours(int many) {
        if (many < 1 || many > 8) {
            throw new IllegalArgumentException();
        }
    }

    public int colours(int many, int looks) {
        needColours(many);
        needLooks(looks);
        looked = 0;
        TreeMap<Integer, Integer> given = new TreeMap<>();
        int answer = partOnce(numbers.size(), many, looks, given);
        if (answer == 0) {
            colours = given;
        }
        return answer;
    }

    public int colour(int x) {
        return colours == null || !colours.containsKey(x) ? -1 : colours.get(x);
    }

    public int forced(int many, int looks) {
        needColours(many);
        needLooks(looks);
        if (sort != 0) {
            return -2;
        }
        looked = 0;
        for (int m = 1; m <= n; m++) {
            int answer = partOnce(m, many, looks, new TreeMap<>());
            if (answer == 2) {
                return -1;
            }
            if (answer == 1) {
                return m;
            }
        }
        return n + 1;
    }

    // ---- sums

    public int sums(int j, int k, int what, int to) {
        set(j);
        set(k);
        set(to);
        if (what < 0 || what > 2) {
            return -1;
        }
        TreeSet<Integer> made = new TreeSet<>();
        for (int x : set(j)) {
            for (int y : set(k)) {
                made.add(what == 2 ? product(x, y) : add(x, what == 0 ? y : many(-1, y)));
            }
        }
        int unlike = made.size();
        made.retainAll(numbers);
        sets.set(to, made);
        return unlike;
    }

    public int energy(int k) {
        int rows = 0;
        for (int x : set(k)) {
            for (int y : set(k)) {
                for (int u : set(k)) {
                    for (int v : set(k)) {
                        rows += add(x, y) == add(u, v) ? 1 : 0;
                    }
                }
            }
        }
        return rows;
    }

    public int order(int k) {
        TreeSet<Integer> set = set(k);
        if (sort != 0) {
            return -1;
        }
        Set<Integer> reached = new HashSet<>(Set.of(0));
        for (int h = 1; h <= n; h++) {
            Set<Integer> more = new HashSet<>(reached);
            for (int sum : reached) {
                for (int x : set) {
                    if (sum + x <= n) {
                        more.add(sum + x);
                    }
                }
            }
            reached = more;
            if (reached.containsAll(numbers)) {
                return h;
            }
        }
        return -1;
    }

    public int keep(int k, int seed) {
        set(k);
        if (seed < 0 || seed > 65535) {
            throw new IllegalArgumentException();
        }
        TreeSet<Integer> made = new TreeSet<>();
        List<Integer> unasked = new ArrayList<>(numbers);
        long now = seed;
        while (!unasked.isEmpty()) {
            now = (25173L * now + 13849L) % 65536L;
            int x = unasked.remove((int) (now % unasked.size()));
            if (keepsWith(made, x)) {
                made.add(x);
            }
        }
        sets.set(k, made);
        return made.size();
    }

    public int look(int what) {
        switch (what) {
            case 0: return sort;
            case 1: return n;
            case 2: return numbers.size();
            case 3: return laws.size();
            case 4: return listed.size();
            case 5: return looked;
            case 6: return tape.size();
            default: return -1;
        }
    }
}
