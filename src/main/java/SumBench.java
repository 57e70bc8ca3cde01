import java.util.Arrays;
import java.util.NoSuchElementException;

/**
 * A bench for sets of whole numbers and what their sums must not do.
 *
 * <p>A set is held as a long: number x is its bit x, so that 60 numbers fit and sets are compared,
 * moved and counted in a few steps. All rows are made once, with the object; no call makes another.
 */
public final class SumBench {
    public static final int NONE = -1;

    private static final int SETS = 8;
    private static final int MOST_NUMBERS = 60;
    private static final int WIDE = MOST_NUMBERS + 1;
    private static final int MOST_BYTES = 500;
    private static final int FED_BYTES = 20;
    private static final int WIDTHS = 4;
    private static final int MOST_LAWS = 6;
    private static final int MOST_FACTOR = 9;
    private static final int LEAST_ROW = 3;
    private static final int MOST_ROW = 6;
    private static final int MOST_LOOKS = 50000;
    private static final int MOST_LISTED = 300;
    private static final int MOST_COLOURS = 8;
    private static final int MOST_TURNS = 7;
    private static final int SEEDS = 65536;
    private static final int TOLD = 4;
    private static final int MOST_SUM = 2 * MOST_NUMBERS;
    private static final int MOST_PRODUCT = MOST_NUMBERS * MOST_NUMBERS;
    private static final int MOST_MULTIPLE = MOST_FACTOR * MOST_NUMBERS;

    private static final int NUMBERS = 0;
    private static final int RESTS = 1;
    private static final int THREES = 2;

    private static final int ROW = 0;
    private static final int SUM = 1;
    private static final int PRODUCT = 2;
    private static final int APART = 3;
    private static final int EQUATION = 4;

    private static final int PARTED = 0;
    private static final int NOT_PARTED = 1;
    private static final int SPENT = 2;

    private static final int BREAKS_LAWS = -2;
    private static final int TOO_MANY = -2;
    private static final int OTHER_SORT = -2;

    private final Tape tape = new Tape();
    private final Ground ground = new Ground();
    private final Laws laws = new Laws(ground);
    private final Listing listing = new Listing(ground);
    private final Search search = new Search(ground, laws, listing);
    private final Colouring colouring = new Colouring(ground, laws);
    private final Reckoner reckoner = new Reckoner(ground);
    private final long[] sets = new long[SETS];
    private final int[] witness = new int[TOLD];
    private boolean witnessed = false;
    private final int[] shown = new int[WIDE];
    private boolean coloured = false;
    private int looked = 0;

    public SumBench() {
    }

    public int feed(int a, int b, int c, int d, int e) {
        if (tape.length + FED_BYTES > MOST_BYTES) {
            return NONE;
        }
        tape.append(a);
        tape.append(b);
        tape.append(c);
        tape.append(d);
        tape.append(e);
        return tape.length;
    }

    public boolean end(int n) {
        if (n < 0 || n > tape.length) {
            return false;
        }
        tape.length = n;
        return true;
    }

    public boolean ground(int sort, int n) {
        if (!ground.lay(sort, n)) {
            return false;
        }
        laws.clear();
        listing.clear();
        Arrays.fill(sets, 0L);
        witnessed = false;
        coloured = false;
        return true;
    }

    public int sheet(int k, int width) throws IndexOutOfBoundsException, IllegalArgumentException {
        requireSet(k);
        if (width < 0 || width >= WIDTHS) {
            throw new IllegalArgumentException("no such width");
        }
        int length = tape.length;
        int step = 1 << width;
        tape.length = 0;
        long set = 0;
        for (int place = 0; place < length; place += step) {
            if (place + step > length) {
                return -1 - place;
            }
            long x = tape.number(place, step);
            if (!ground.contains(x)) {
                return -1 - place;
            }
            set |= 1L << x;
        }
        sets[k] = set;
        return Long.bitCount(set);
    }

    public boolean put(int k, int x, boolean on) throws IndexOutOfBoundsException {
        requireSet(k);
        if (!ground.contains(x) || ground.isIn(sets[k], x) == on) {
            return false;
        }
        sets[k] ^= 1L << x;
        return true;
    }

    public boolean has(int k, int x) throws IndexOutOfBoundsException {
        requireSet(k);
        return ground.isIn(sets[k], x);
    }

    public int size(int k) throws IndexOutOfBoundsException {
        requireSet(k);
        return Long.bitCount(sets[k]);
    }

    public int at(int k, int i) throws IndexOutOfBoundsException, NoSuchElementException {
        requireSet(k);
        if (i < 0 || i >= Long.bitCount(sets[k])) {
            throw new NoSuchElementException("no such number of the set");
        }
        return numberAt(sets[k], i);
    }

    public int law(int kind, int a, int b, int c, boolean unlike) {
        if (laws.many >= MOST_LAWS || !Law.fits(kind, a, b, c)) {
            return NONE;
        }
        return laws.add(kind, a, b, c, unlike);
    }

    public int drop() {
        int gone = laws.many;
        laws.clear();
        return gone;
    }

    public int clash(int k) throws IndexOutOfBoundsException {
        requireSet(k);
        int law = laws.firstClash(sets[k]);
        if (law != NONE) {
            System.arraycopy(laws.found, 0, witness, 0, TOLD);
            witnessed = true;
        }
        return law;
    }

    public int witness(int i) throws NoSuchElementException {
        if (!witnessed || i < 0 || i >= TOLD) {
            throw new NoSuchElementException("no such number of a clash");
        }
        return witness[i];
    }

    public int room(int k) throws IndexOutOfBoundsException {
        requireSet(k);
        if (laws.firstClash(sets[k]) != NONE) {
            return BREAKS_LAWS;
        }
        laws.makeReady();
        for (int x = ground.first; x <= ground.last; x++) {
            if (!ground.isIn(sets[k], x) && laws.keepWith(sets[k], x)) {
                return x;
            }
        }
        return NONE;
    }

    public int greatest(int k, int looks) throws IndexOutOfBoundsException, IllegalArgumentException {
        requireSet(k);
        requireLooks(looks);
        search.walk(Search.GREATEST, 0, looks);
        looked = search.looked;
        if (search.bestSize == NONE) {
            return -1;
        }
        sets[k] = search.best;
        return search.spent ? -1 - search.bestSize : search.bestSize;
    }

    public int list(int looks) throws IllegalArgumentException {
        requireLooks(looks);
        listing.clear();
        search.walk(Search.GREATEST, 0, looks);
        looked = search.looked;
        if (search.spent) {
            return NONE;
        }
        search.walk(Search.LIST, search.bestSize, looks);
        looked += search.looked;
        if (search.spent || search.overfull) {
            listing.clear();
            return search.overfull ? TOO_MANY : NONE;
        }
        return listing.many;
    }

    public int listed(int k, int i) throws IndexOutOfBoundsException {
        requireSet(k);
        if (i < 0 || i >= listing.many) {
            return NONE;
        }
        sets[k] = listing.rows[i];
        return Long.bitCount(sets[k]);
    }

    public int kinds(int turns) throws IllegalArgumentException {
        requireTurns(turns);
        listing.sortOut(turns);
        return listing.kindsMany;
    }

    public int kind(int turns, int i, int what) throws IllegalArgumentException {
        requireTurns(turns);
        listing.sortOut(turns);
        if (i < 0 || i >= listing.kindsMany) {
            return NONE;
        }
        switch (what) {
            case 0:
                return listing.firsts[i];
            case 1:
                return listing.alike[i];
            case 2:
                return listing.still[i];
            default:
                return NONE;
        }
    }

    public int count(int looks) throws IllegalArgumentException {
        requireLooks(looks);
        search.walk(Search.COUNT, 0, looks);
        looked = search.looked;
        return search.spent ? NONE : search.counted;
    }

    public int colours(int many, int looks) throws IllegalArgumentException {
        requireColours(many);
        requireLooks(looks);
        int answer = colouring.part(ground.last, many, looks);
        looked = colouring.looked;
        if (answer == PARTED) {
            colouring.copyTo(shown);
            coloured = true;
        }
        return answer;
    }

    public int colour(int x) {
        return coloured && ground.contains(x) ? shown[x] : NONE;
    }

    public int forced(int many, int looks) throws IllegalArgumentException {
        requireColours(many);
        requireLooks(looks);
        if (ground.sort != NUMBERS) {
            return OTHER_SORT;
        }
        looked = 0;
        for (int m = 1; m <= ground.n; m++) {
            int answer = colouring.part(m, many, looks);
            looked += colouring.looked;
            if (answer != PARTED) {
                return answer == SPENT ? NONE : m;
            }
        }
        return ground.n + 1;
    }

    public int sums(int j, int k, int what, int to) throws IndexOutOfBoundsException {
        requireSet(j);
        requireSet(k);
        requireSet(to);
        if (what < 0 || what > 2) {
            return NONE;
        }
        int unlike = reckoner.pair(sets[j], sets[k], what);
        sets[to] = reckoner.made;
        return unlike;
    }

    public int energy(int k) throws IndexOutOfBoundsException {
        requireSet(k);
        return reckoner.equalSums(sets[k]);
    }

    public int order(int k) throws IndexOutOfBoundsException {
        requireSet(k);
        // Without 1 in the set no sum is 1, and with it every number is a sum.
        if (ground.sort != NUMBERS || !ground.isIn(sets[k], 1)) {
            return NONE;
        }
        return reckoner.mostSummands(sets[k]);
    }

    public int keep(int k, int seed) throws IndexOutOfBoundsException, IllegalArgumentException {
        requireSet(k);
        if (seed < 0 || seed >= SEEDS) {
            throw new IllegalArgumentException("no such seed");
        }
        laws.makeReady();
        long set = 0;
        long unasked = ground.full;
        int now = seed;
        for (int left = Long.bitCount(unasked); left > 0; left--) {
            now = (25173 * now + 13849) % SEEDS;
            int x = numberAt(unasked, now % left);
            unasked ^= 1L << x;
            if (laws.keepWith(set, x)) {
                set |= 1L << x;
            }
        }
        sets[k] = set;
        return Long.bitCount(set);
    }

    public int look(int what) {
        switch (what) {
            case 0:
                return ground.sort;
            case 1:
                return ground.n;
            case 2:
                return Long.bitCount(ground.full);
            case 3:
                return laws.many;
            case 4:
                return listing.many;
            case 5:
                return looked;
            case 6:
                return tape.length;
            default:
                return NONE;
        }
    }

    private static void requireSet(int k) {
        if (k < 0 || k >= SETS) {
            throw new IndexOutOfBoundsException("no such set");
        }
    }

    private static void requireLooks(int looks) {
        if (looks < 1 || looks > MOST_LOOKS) {
            throw new IllegalArgumentException("no such number of looks");
        }
    }

    private static void requireTurns(int turns) {
        if (turns < 0 || turns > MOST_TURNS) {
            throw new IllegalArgumentException("no such turns");
        }
    }

    private static void requireColours(int many) {
        if (many < 1 || many > MOST_COLOURS) {
            throw new IllegalArgumentException("no such number of colours");
        }
    }

    /** The least number of a set that is not empty. */
    private static int least(long set) {
        return Long.bitCount((set & -set) - 1);
    }

    /** The number with this place, from 0 on and rising, of a set that has so many. */
    private static int numberAt(long set, int place) {
        long rest = set;
        for (int i = 0; i < place; i++) {
            rest &= rest - 1;
        }
        return least(rest);
    }

    /** Bytes that wait to be read as numbers. */
    private static final class Tape {
        private final byte[] bytes = new byte[MOST_BYTES];
        private int length = 0;

        void append(int number) {
            for (int shift = 24; shift >= 0 && length < MOST_BYTES; shift -= 8) {
                bytes[length] = (byte) (number >> shift);
                length++;
            }
        }

        /** The number in the bytes from a place on, which must be within the tape. */
        long number(int place, int width) {
            // The highest byte alone keeps its sign.
            long value = bytes[place];
            for (int i = 1; i < width; i++) {
                value = value << 8 | bytes[place + i] & 255;
            }
            return value;
        }
    }

    /** The numbers at hand, and how they are added and multiplied. */
    private static final class Ground {
        private int sort;
        private int n;
        private int first;
        private int last;
        private long full;

        Ground() {
            lay(NUMBERS, 20);
        }

        boolean lay(int newSort, int newN) {
            if (!fits(newSort, newN)) {
                return false;
            }
            sort = newSort;
            n = newN;
            first = sort == NUMBERS ? 1 : 0;
            last = lastOf(newSort, newN);
            full = 0;
            for (int x = first; x <= last; x++) {
                full |= 1L << x;
            }
            return true;
        }

        private static boolean fits(int sort, int n) {
            switch (sort) {
                case NUMBERS:
                    return n >= 1 && n <= MOST_NUMBERS;
                case RESTS:
                    return n >= 2 && n <= MOST_NUMBERS;
                case THREES:
                    return n >= 1 && n <= 3;
                default:
                    return false;
            }
        }

        private static int lastOf(int sort, int n) {
            if (sort == NUMBERS) {
                return n;
            }
            if (sort == RESTS) {
                return n - 1;
            }
            int many = 1;
            for (int i = 0; i < n; i++) {
                many *= 3;
            }
            return many - 1;
        }

        boolean contains(long x) {
            return x >= first && x <= last;
        }

        boolean isIn(long set, int x) {
            // A shift alone would take x by 64.
            return contains(x) && (set >>> x & 1) != 0;
        }

        /** a x + b y; of sort 0 it may be outside the GROUND. */
        int mix(int a, int x, int b, int y) {
            switch (sort) {
                case RESTS:
                    return Math.floorMod(a * x + b * y, n);
                case THREES:
                    return mixThrees(a, x, b, y);
                default:
                    return a * x + b * y;
            }
        }

        int times(int x, int y) {
            switch (sort) {
                case RESTS:
                    return Math.floorMod(x * y, n);
                case THREES:
                    return timesThrees(x, y);
                default:
                    return x * y;
            }
        }

        private int mixThrees(int a, int x, int b, int y) {
            int made = 0;
            int digit = 1;
            for (int i = 0; i < n; i++) {
                int rest = (a * (x / digit % 3) + b * (y / digit % 3)) % 3;
                made += digit * (rest < 0 ? rest + 3 : rest);
                digit *= 3;
            }
            return made;
        }

        private int timesThrees(int x, int y) {
            int made = 0;
            int digit = 1;
            for (int i = 0; i < n; i++) {
                made += digit * (x / digit % 3 * (y / digit % 3) % 3);
                digit *= 3;
            }
            return made;
        }

        /** All x + by with x of a set; of sort 0 those outside the GROUND are gone. */
        long moved(long set, int by) {
            switch (sort) {
                case RESTS:
                    return (set << by | set >>> n - by) & full;
                case THREES:
                    return movedThrees(set, by);
                default:
                    return (by < 0 ? set >>> -by : set << by) & full;
            }
        }

        private long movedThrees(long set, int by) {
            long made = 0;
            for (int x = first; x <= last; x++) {
                if ((set >>> x & 1) != 0) {
                    made |= 1L << mixThrees(1, x, 1, by);
                }
            }
            return made;
        }

        /** All a x with x of a set: for sorts whose numbers never leave the GROUND. */
        long stretched(long set, int a) {
            long made = 0;
            for (int x = first; x <= last; x++) {
                if ((set >>> x & 1) != 0) {
                    made |= 1L << mix(a, x, 0, 0);
                }
            }
            return made;
        }

        /** All n + 1 - x with x of a set: for sort 0. */
        long mirrored(long set) {
            long made = 0;
            for (int x = first; x <= last; x++) {
                if ((set >>> x & 1) != 0) {
                    made |= 1L << n + 1 - x;
                }
            }
            return made;
        }
    }

    /** One LAW. All but APART and longer ROWS are told by three numbers with a x + b y + c z = 0 or x y = z. */
    private static final class Law {
        private int kind = APART;
        private int length = 0;
        private int a = 1;
        private int b = 1;
        private int c = 1;
        private boolean unlike = false;

        static boolean fits(int kind, int a, int b, int c) {
            switch (kind) {
                case ROW:
                    return a >= LEAST_ROW && a <= MOST_ROW;
                case SUM:
                case PRODUCT:
                case APART:
                    return true;
                case EQUATION:
                    return isFactor(a) && isFactor(b) && isFactor(c) && noughts(a, b, c) <= 1;
                default:
                    return false;
            }
        }

        private static boolean isFactor(int a) {
            return a >= -MOST_FACTOR && a <= MOST_FACTOR;
        }

        private static int noughts(int a, int b, int c) {
            return (a == 0 ? 1 : 0) + (b == 0 ? 1 : 0) + (c == 0 ? 1 : 0);
        }

        void write(int newKind, int newA, int newB, int newC, boolean newUnlike) {
            kind = newKind;
            length = newA;
            switch (newKind) {
                case ROW:
                    // x + (x + 2 d) is twice x + d.
                    weigh(1, -2, 1, true);
                    break;
                case SUM:
                    weigh(1, 1, -1, newUnlike);
                    break;
                case EQUATION:
                    weigh(newA, newB, newC, newUnlike);
                    break;
                default:
                    weigh(1, 1, 1, newUnlike);
                    break;
            }
        }

        private void weigh(int newA, int newB, int newC, boolean newUnlike) {
            a = newA;
            b = newB;
            c = newC;
            unlike = newUnlike;
        }

        boolean isLongRow() {
            return kind == ROW && length > LEAST_ROW;
        }
    }

    /** The LAWS told, the first CLASH of a set, and whether a set that KEEPS them may have one number more. */
    private static final class Laws {
        private final Ground ground;
        private final Law[] rows = new Law[MOST_LAWS];
        private int many = 0;
        private final int[] found = new int[TOLD];
        /** Behind MOST_MULTIPLE + v: the numbers z with - c z = v for the LAW in hand. */
        private final long[] answers = new long[2 * MOST_MULTIPLE + 1];
        /**
         * At x and y: numbers z for which x, y and z, some of which may be the same, are all those of a CLASH.
         * A CLASH stands at each of its numbers once at least.
         */
        private final long[] thirds = new long[WIDE * WIDE];
        private boolean tabled = false;

        Laws(Ground ground) {
            this.ground = ground;
            for (int i = 0; i < MOST_LAWS; i++) {
                rows[i] = new Law();
            }
        }

        void clear() {
            many = 0;
            tabled = false;
        }

        /** Room for one more must be there. */
        int add(int kind, int a, int b, int c, boolean unlike) {
            rows[many].write(kind, a, b, c, unlike);
            tabled = false;
            many++;
            return many - 1;
        }

        /** The LAW of the first CLASH of a set, whose numbers are in found then; NONE without one. */
        int firstClash(long set) {
            for (int i = 0; i < many; i++) {
                if (findsClash(rows[i], set)) {
                    return i;
                }
            }
            return NONE;
        }

        private boolean findsClash(Law law, long set) {
            switch (law.kind) {
                case ROW:
                    return findsRow(law.length, set);
                case APART:
                    return findsEqualSums(set);
                default:
                    return findsThree(law, set);
            }
        }

        private boolean tell(int x, int y, int u, int v) {
            found[0] = x;
            found[1] = y;
            found[2] = u;
            found[3] = v;
            return true;
        }

        private boolean findsRow(int length, long set) {
            for (int x = ground.first; x <= ground.last; x++) {
                if (ground.isIn(set, x) && findsRowFrom(x, length, set)) {
                    return true;
                }
            }
            return false;
        }

        private boolean findsRowFrom(int x, int length, long set) {
            int from = ground.sort == NUMBERS ? x + 1 : ground.first;
            for (int y = from; y <= ground.last; y++) {
                if (y != x && ground.isIn(set, y)
                        && stepsWithin(set, x, 1, ground.mix(1, y, -1, x), length - 1) == length - 1) {
                    return tell(x, y, 0, 0);
                }
            }
            return false;
        }

        /** How many of the steps from x by d, or back by d, stay in the set; 0, if they come back to x. */
        private int stepsWithin(long set, int x, int sign, int d, int most) {
            int y = x;
            for (int i = 0; i < most; i++) {
                y = ground.mix(1, y, sign, d);
                if (y == x) {
                    return 0;
                }
                if (!ground.isIn(set, y)) {
                    return i;
                }
            }
            return most;
        }

        private boolean findsEqualSums(long set) {
            for (int x = ground.first; x <= ground.last; x++) {
                if (ground.isIn(set, x) && findsEqualSumsFrom(x, set)) {
                    return true;
                }
            }
            return false;
        }

        private boolean findsEqualSumsFrom(int x, long set) {
            for (int y = x; y <= ground.last; y++) {
                if (ground.isIn(set, y) && findsEqualSum(x, y, set)) {
                    return true;
                }
            }
            return false;
        }

        private boolean findsEqualSum(int x, int y, long set) {
            int sum = ground.mix(1, x, 1, y);
            for (int u = ground.first; u <= ground.last; u++) {
                // With u = x the other is y: that is the same sum.
                if (u != x && ground.isIn(set, u)) {
                    int v = ground.mix(1, sum, -1, u);
                    if (v >= u && ground.isIn(set, v)) {
                        return tell(x, y, u, v);
                    }
                }
            }
            return false;
        }

        private boolean findsThree(Law law, long set) {
            takeInHand(law);
            long xs = choices(law.a, set);
            for (int x = 0; x <= ground.last; x++) {
                if ((xs >>> x & 1) != 0 && findsThreeFrom(law, x, set)) {
                    return true;
                }
            }
            return false;
        }

        private boolean findsThreeFrom(Law law, int x, long set) {
            long ys = choices(law.b, set);
            long zs = choices(law.c, set);
            for (int y = 0; y <= ground.last; y++) {
                if ((ys >>> y & 1) != 0) {
                    long fitting = fittingWith(law, x, y) & zs;
                    if (fitting != 0) {
                        return tell(x, y, least(fitting), 0);
                    }
                }
            }
            return false;
        }

        /** What a place of an EQUATION may be: any of a set; the number 0 alone, if it is not in it. */
        private static long choices(int factor, long set) {
            return factor == 0 ? 1L : set;
        }

        private void takeInHand(Law law) {
            Arrays.fill(answers, 0L);
            long zs = choices(law.c, ground.full);
            for (int z = 0; z <= ground.last; z++) {
                if ((zs >>> z & 1) != 0) {
                    answers[MOST_MULTIPLE + ground.mix(-law.c, z, 0, 0)] |= 1L << z;
                }
            }
        }

        /** All z that make a CLASH with x and y of the LAW in hand, be they in a set or not. */
        private long fittingWith(Law law, int x, int y) {
            long zs = law.kind == PRODUCT ? alone(ground.times(x, y)) : answersTo(ground.mix(law.a, x, law.b, y));
            if (!law.unlike) {
                return zs;
            }
            if (x == y && law.a != 0 && law.b != 0) {
                return 0;
            }
            if (law.c == 0) {
                return zs;
            }
            return zs & ~(law.a == 0 ? 0 : 1L << x) & ~(law.b == 0 ? 0 : 1L << y);
        }

        private long alone(int z) {
            return ground.contains(z) ? 1L << z : 0;
        }

        private long answersTo(int v) {
            return v >= -MOST_MULTIPLE && v <= MOST_MULTIPLE ? answers[MOST_MULTIPLE + v] : 0;
        }

        /**
         * Whether a set that KEEPS the LAWS does so with x, too: only CLASHES with x need a look.
         * makeReady() must come first: it is no part of this, so that calls do not go too deep.
         */
        boolean keepWith(long set, int x) {
            long all = set | 1L << x;
            long rest = all;
            for (int left = Long.bitCount(all); left > 0; left--) {
                if ((thirds[x * WIDE + least(rest)] & all) != 0) {
                    return false;
                }
                rest &= rest - 1;
            }
            for (int i = 0; i < many; i++) {
                if (rows[i].kind == APART && hasEqualSums(all, x)
                        || rows[i].isLongRow() && hasRow(all, x, rows[i].length - 1)) {
                    return false;
                }
            }
            return true;
        }

        /** Whether x + y = u + v in the set: x - u is v - y then, so two of it are as far ahead of others. */
        private boolean hasEqualSums(long set, int x) {
            long rest = set & ~(1L << x);
            for (int left = Long.bitCount(rest); left > 0; left--) {
                int d = ground.mix(1, x, -1, least(rest));
                if (Long.bitCount(set & ground.moved(set, d)) > 1) {
                    return true;
                }
                rest &= rest - 1;
            }
            return false;
        }

        /** Whether x is one of a ROW in the set: then it has its neighbour there, ahead or behind. */
        private boolean hasRow(long set, int x, int steps) {
            if (ground.sort == THREES) {
                // The third step comes back to x: no ROW of more than 3 is of unlike ones.
                return false;
            }
            long rest = set & ~(1L << x);
            for (int left = Long.bitCount(rest); left > 0; left--) {
                int d = ground.mix(1, least(rest), -1, x);
                if (stepsWithin(set, x, 1, d, steps) + stepsWithin(set, x, -1, d, steps) >= steps) {
                    return true;
                }
                rest &= rest - 1;
            }
            return false;
        }

        void makeReady() {
            if (tabled) {
                return;
            }
            Arrays.fill(thirds, 0L);
            for (int i = 0; i < many; i++) {
                if (rows[i].kind != APART && !rows[i].isLongRow()) {
                    enter(rows[i]);
                }
            }
            tabled = true;
        }

        private void enter(Law law) {
            takeInHand(law);
            long xs = choices(law.a, ground.full);
            for (int x = 0; x <= ground.last; x++) {
                if ((xs >>> x & 1) != 0) {
                    enterFrom(law, x);
                }
            }
        }

        private void enterFrom(Law law, int x) {
            long ys = choices(law.b, ground.full);
            for (int y = 0; y <= ground.last; y++) {
                if ((ys >>> y & 1) != 0) {
                    enterAll(law, x, y, fittingWith(law, x, y));
                }
            }
        }

        /** A number that is not in the CLASH is told by another one that is. */
        private void enterAll(Law law, int x, int y, long zs) {
            int p = law.a == 0 ? y : x;
            int q = law.b == 0 ? x : y;
            long rest = zs;
            for (int left = Long.bitCount(zs); left > 0; left--) {
                int r = law.c == 0 ? p : least(rest);
                thirds[p * WIDE + q] |= 1L << r;
                thirds[q * WIDE + p] |= 1L << r;
                thirds[r * WIDE + p] |= 1L << q;
                rest &= rest - 1;
            }
        }
    }

    /** GREATEST, LIST and count(): CASES wait on a pile, that one on top which comes next. */
    private static final class Search {
        private static final int GREATEST = 0;
        private static final int LIST = 1;
        private static final int COUNT = 2;

        private final Ground ground;
        private final Laws laws;
        private final Listing listing;
        private final long[] pileSets = new long[WIDE + 1];
        private final int[] pileNexts = new int[WIDE + 1];
        private int top = 0;
        private int aim = COUNT;
        /** CASES that can't come to so many numbers are left. */
        private int floor = 0;
        private long best = 0;
        private int bestSize = NONE;
        private int counted = 0;
        private int looked = 0;
        private boolean spent = false;
        private boolean overfull = false;

        Search(Ground ground, Laws laws, Listing listing) {
            this.ground = ground;
            this.laws = laws;
            this.listing = listing;
        }

        /** With the aim LIST the sets go to the listing, which is empty, and the floor is the size of a GREATEST. */
        void walk(int newAim, int newFloor, int looks) {
            laws.makeReady();
            aim = newAim;
            floor = newFloor;
            bestSize = NONE;
            counted = 0;
            overfull = false;
            top = 0;
            pile(0, ground.first);
            for (looked = 0; looked < looks && top > 0; looked++) {
                top--;
                visit(pileSets[top], pileNexts[top]);
            }
            spent = top > 0;
        }

        private void pile(long set, int next) {
            if (top < pileSets.length) {
                pileSets[top] = set;
                pileNexts[top] = next;
                top++;
            }
        }

        private void visit(long in, int next) {
            int toCome = ground.last - next + 1;
            if (Long.bitCount(in) + toCome < floor) {
                return;
            }
            if (toCome == 0) {
                take(in);
                return;
            }
            pile(in, next + 1);
            if (laws.keepWith(in, next)) {
                pile(in | 1L << next, next + 1);
            }
        }

        private void take(long in) {
            switch (aim) {
                case GREATEST:
                    best = in;
                    bestSize = Long.bitCount(in);
                    floor = bestSize + 1;
                    break;
                case LIST:
                    if (!listing.add(in)) {
                        overfull = true;
                        // An empty pile ends the walk.
                        top = 0;
                    }
                    break;
                default:
                    counted++;
                    break;
            }
        }
    }

    /** COLOURS: the CASES wait on a pile as places, 1 for the least number, with a COLOUR for each. */
    private static final class Colouring {
        private final Ground ground;
        private final Laws laws;
        private final int[] pilePlaces = new int[WIDE * MOST_COLOURS];
        private final int[] pileColours = new int[WIDE * MOST_COLOURS];
        private int top = 0;
        private final int[] given = new int[WIDE];
        /** At each place: how many COLOURS are had from the first place to it. */
        private final int[] used = new int[WIDE];
        /** At each place: the numbers of each COLOUR from the first place to it. */
        private final long[] groups = new long[WIDE * MOST_COLOURS];
        private int looked = 0;

        Colouring(Ground ground, Laws laws) {
            this.ground = ground;
            this.laws = laws;
        }

        /** Parts the numbers from the first of the GROUND to the last told. */
        int part(int last, int many, int looks) {
            laws.makeReady();
            int places = last - ground.first + 1;
            top = 0;
            pile(0, NONE);
            for (looked = 0; looked < looks && top > 0; looked++) {
                top--;
                int place = pilePlaces[top];
                give(place, pileColours[top]);
                if (place >= places) {
                    looked++;
                    return PARTED;
                }
                pileChoices(place, many);
            }
            return top > 0 ? SPENT : NOT_PARTED;
        }

        private void pile(int place, int colour) {
            if (top < pilePlaces.length) {
                pilePlaces[top] = place;
                pileColours[top] = colour;
                top++;
            }
        }

        /** What stands at earlier places is that of the CASE from which this one comes. */
        private void give(int place, int colour) {
            if (place == 0) {
                // The beginning gives none: nothing is ever had there.
                return;
            }
            given[place] = colour;
            used[place] = Math.max(used[place - 1], colour + 1);
            int row = place * MOST_COLOURS;
            System.arraycopy(groups, row - MOST_COLOURS, groups, row, MOST_COLOURS);
            groups[row + colour] |= 1L << numberOf(place);
        }

        /** The first COLOUR is piled last, so that it comes first. */
        private void pileChoices(int place, int many) {
            int x = numberOf(place + 1);
            for (int colour = Math.min(used[place], many - 1); colour >= 0; colour--) {
                if (laws.keepWith(groups[place * MOST_COLOURS + colour], x)) {
                    pile(place + 1, colour);
                }
            }
        }

        private int numberOf(int place) {
            return ground.first + place - 1;
        }

        void copyTo(int[] shown) {
            for (int x = ground.first; x <= ground.last; x++) {
                shown[x] = given[x - ground.first + 1];
            }
        }
    }

    /** The sets listed, in ORDER, and their KINDS by the TURNS asked for last. It is cleared before it is filled. */
    private static final class Listing {
        private static final int BACK = 1;
        private static final int MOVE = 2;
        private static final int STRETCH = 4;

        private final Ground ground;
        private final long[] rows = new long[MOST_LISTED];
        private int many = 0;
        private int turnsKnown = NONE;
        private int kindsMany = 0;
        private final int[] kindOf = new int[MOST_LISTED];
        private final int[] firsts = new int[MOST_LISTED];
        private final int[] alike = new int[MOST_LISTED];
        private final int[] still = new int[MOST_LISTED];

        Listing(Ground ground) {
            this.ground = ground;
        }

        void clear() {
            many = 0;
            turnsKnown = NONE;
        }

        boolean add(long set) {
            if (many >= MOST_LISTED) {
                return false;
            }
            rows[many] = set;
            many++;
            return true;
        }

        void sortOut(int turns) {
            if (turns == turnsKnown) {
                return;
            }
            kindsMany = 0;
            Arrays.fill(kindOf, NONE);
            for (int i = 0; i < many; i++) {
                if (kindOf[i] == NONE) {
                    openKind(i, turns);
                }
            }
            turnsKnown = turns;
        }

        private void openKind(int i, int turns) {
            firsts[kindsMany] = i;
            alike[kindsMany] = 0;
            still[kindsMany] = 0;
            turnBy(1, i, turns);
            if (ground.sort == RESTS) {
                for (int a = 2; a < ground.n; a++) {
                    if (isStretch(a, turns)) {
                        turnBy(a, i, turns);
                    }
                }
            } else if ((turns & BACK) != 0 && ground.last > ground.first) {
                // One number alone is turned back to itself: that is no other TURN.
                turnBy(-1, i, turns);
            }
            kindsMany++;
        }

        /** Of sort 1: whether x to a x, a above 1, is one of the TURNS. */
        private boolean isStretch(int a, int turns) {
            if ((turns & BACK) != 0 && a == ground.n - 1) {
                return true;
            }
            return (turns & STRETCH) != 0 && shareNoFactor(a, ground.n);
        }

        private static boolean shareNoFactor(int a, int n) {
            for (int d = 2; d <= a; d++) {
                if (a % d == 0 && n % d == 0) {
                    return false;
                }
            }
            return true;
        }

        /** Set i by all TURNS that take x a-fold (of sort 0: -1 is to mirror) and then may move it. */
        private void turnBy(int a, int i, int turns) {
            long base = timesFactor(rows[i], a);
            if (ground.sort == NUMBERS || (turns & MOVE) == 0) {
                meet(base, i);
                return;
            }
            for (int by = ground.first; by <= ground.last; by++) {
                meet(ground.moved(base, by), i);
            }
        }

        private long timesFactor(long set, int a) {
            if (a == 1) {
                return set;
            }
            return ground.sort == NUMBERS ? ground.mirrored(set) : ground.stretched(set, a);
        }

        /** A TURN makes this set of set i, the first of the KIND that is open. */
        private void meet(long set, int i) {
            if (set == rows[i]) {
                still[kindsMany]++;
            }
            int place = placeOf(set);
            if (place != NONE && kindOf[place] == NONE) {
                kindOf[place] = kindsMany;
                alike[kindsMany]++;
            }
        }

        private int placeOf(long set) {
            int low = 0;
            int high = many;
            for (int i = 0; i < MOST_LISTED && low < high; i++) {
                int middle = (low + high) / 2;
                if (isAhead(rows[middle], set)) {
                    low = middle + 1;
                } else {
                    high = middle;
                }
            }
            return low < many && rows[low] == set ? low : NONE;
        }

        private static boolean isAhead(long one, long other) {
            long unlike = one ^ other;
            return (one & unlike & -unlike) != 0;
        }
    }

    /** Sums, differences and products of sets. */
    private static final class Reckoner {
        private final Ground ground;
        /** Behind MOST_NUMBERS + v: the latest round in which v was made, so that no round clears it. */
        private final int[] rounds = new int[MOST_NUMBERS + MOST_PRODUCT + 1];
        private int round = 0;
        private long made = 0;
        private final int[] ways = new int[MOST_SUM + 1];
        private final int[] fewest = new int[WIDE];

        Reckoner(Ground ground) {
            this.ground = ground;
        }

        /** How many unlike numbers x + y, x - y or x y there are; those in the GROUND are made then. */
        int pair(long xs, long ys, int what) {
            round++;
            made = 0;
            int unlike = 0;
            for (int x = ground.first; x <= ground.last; x++) {
                if (ground.isIn(xs, x)) {
                    unlike += newWith(x, ys, what);
                }
            }
            return unlike;
        }

        private int newWith(int x, long ys, int what) {
            int unlike = 0;
            for (int y = ground.first; y <= ground.last; y++) {
                if (ground.isIn(ys, y) && isNew(reckon(x, y, what))) {
                    unlike++;
                }
            }
            return unlike;
        }

        private int reckon(int x, int y, int what) {
            switch (what) {
                case 0:
                    return ground.mix(1, x, 1, y);
                case 1:
                    return ground.mix(1, x, -1, y);
                default:
                    return ground.times(x, y);
            }
        }

        private boolean isNew(int v) {
            int place = MOST_NUMBERS + v;
            if (place < 0 || place >= rounds.length || rounds[place] == round) {
                return false;
            }
            rounds[place] = round;
            if (ground.contains(v)) {
                made |= 1L << v;
            }
            return true;
        }

        int equalSums(long set) {
            Arrays.fill(ways, 0);
            for (int x = ground.first; x <= ground.last; x++) {
                if (ground.isIn(set, x)) {
                    addWays(x, set);
                }
            }
            int rows = 0;
            for (int sum = 0; sum <= MOST_SUM; sum++) {
                rows += ways[sum] * ways[sum];
            }
            return rows;
        }

        private void addWays(int x, long set) {
            for (int y = ground.first; y <= ground.last; y++) {
                if (ground.isIn(set, y)) {
                    ways[ground.mix(1, x, 1, y)]++;
                }
            }
        }

        /** The most summands that a number of 1 .. n needs at least, with a set that has 1. */
        int mostSummands(long set) {
            int most = 0;
            fewest[0] = 0;
            for (int sum = 1; sum <= ground.n; sum++) {
                fewest[sum] = fewest[sum - 1] + 1;
                for (int x = 2; x <= sum; x++) {
                    if (ground.isIn(set, x)) {
                        fewest[sum] = Math.min(fewest[sum], fewest[sum - x] + 1);
                    }
                }
                most = Math.max(most, fewest[sum]);
            }
            return most;
        }
    }
}
