/** Promises 24 to 27: sums, energy, order and keep. */
public final class ReckonTest {
    private static final int[] NO_SETS = {-1, 8, Integer.MIN_VALUE, Integer.MAX_VALUE};

    private ReckonTest() {
    }

    private static void promise24Sums() {
        SumBench x = Due.withSet(0, 20, 1, 4, 9);
        Due.put(x, 1, 2, 19);
        Due.sumsAre(x, 0, 1, 0, 6, "(3 6 11 20)");
        Due.sumsAre(x, 0, 1, 1, 6, "(2 7)");
        Due.sumsAre(x, 1, 0, 1, 6, "(1 10 15 18)");
        Due.sumsAre(x, 0, 1, 2, 6, "(2 8 18 19)");
        Due.sumsAre(x, 0, 0, 1, 7, "(3 5 8)");
        Due.sumsAre(x, 0, 7, 0, 0, "()");
        Due.sumsAre(x, 7, 0, 2, 0, "()");
        x = Due.withSet(0, 60);
        for (int y = 1; y <= 60; y++) {
            x.put(0, y, true);
        }
        Due.is("all sums 2 .. 120", x.sums(0, 0, 0, 1), 119);
        Due.is("those in the ground", x.size(1), 59);
        Due.is("all differences -59 .. 59", x.sums(0, 0, 1, 1), 119);
        Due.is("those in the ground", x.size(1), 59);
        Due.is("all products to 3600", x.sums(0, 0, 2, 1), products(60));
        Due.is("those in the ground", x.size(1), 60);
        x = Due.withSet(1, 10, 3, 8);
        Due.sumsAre(x, 0, 0, 0, 2, "(1 6)");
        Due.sumsAre(x, 0, 0, 1, 2, "(0 5)");
        Due.sumsAre(x, 0, 0, 2, 2, "(4 9)");
        x = Due.withSet(2, 3, 5, 14, 26);
        // 5 is 2 1 0, 14 is 2 1 1, 26 is 2 2 2: their sums are 1 2 0, 1 2 1, 1 0 2, 1 2 2, 1 0 0, 1 1 1.
        Due.sumsAre(x, 0, 0, 0, 6, "(1 7 13 16 19 25)");
        Due.sumsAre(x, 0, 0, 1, 7, "(0 9 12 15 18 21 24)");
        Due.sumsAre(x, 0, 0, 2, 4, "(4 7 13 25)");
        sumsPlaces();
    }

    private static int products(int n) {
        java.util.TreeSet<Integer> made = new java.util.TreeSet<>();
        for (int x = 1; x <= n; x++) {
            for (int y = 1; y <= n; y++) {
                made.add(x * y);
            }
        }
        return made.size();
    }

    private static void sumsPlaces() {
        SumBench x = Due.withSet(0, 20, 1, 2);
        Due.is("into the first one itself", x.sums(0, 0, 0, 0), 3);
        Due.same("made of what it was", Due.set(x, 0), "(2 3 4)");
        Due.put(x, 1, 10);
        Due.is("into the second one", x.sums(0, 1, 0, 1), 3);
        Due.same("made of what it was", Due.set(x, 1), "(12 13 14)");
        for (int what : new int[] {-1, 3, Integer.MIN_VALUE, Integer.MAX_VALUE}) {
            Due.is("another what", x.sums(0, 0, what, 1), -1);
        }
        Due.same("the set stays", Due.set(x, 1), "(12 13 14)");
        for (int k : NO_SETS) {
            Due.throwsIt("sums", IndexOutOfBoundsException.class, () -> x.sums(k, 0, 0, 1));
            Due.throwsIt("sums", IndexOutOfBoundsException.class, () -> x.sums(0, k, 0, 1));
            Due.throwsIt("sums", IndexOutOfBoundsException.class, () -> x.sums(0, 0, 0, k));
        }
        Due.same("the set stays", Due.set(x, 1), "(12 13 14)");
    }

    private static void promise25Energy() {
        Due.is("of an empty set", Due.withSet(0, 20).energy(0), 0);
        Due.is("of one number", Due.withSet(0, 20, 20).energy(0), 1);
        Due.is("of 1 2 3: 1 + 4 + 9 + 4 + 1", Due.withSet(0, 20, 1, 2, 3).energy(0), 19);
        Due.is("of unlike sums: 2 m m - m", Due.withSet(0, 20, 1, 2, 5, 7).energy(0), 28);
        Due.is("sums above n", Due.withSet(0, 20, 18, 19, 20).energy(0), 19);
        Due.is("of rests 0 5 by 10: 0 twice, 5 twice", Due.withSet(1, 10, 0, 5).energy(0), 8);
        Due.is("of a group by threes", Due.withSet(2, 2, 0, 1, 2).energy(0), 27);
        SumBench x = Due.withSet(1, 60);
        for (int y = 0; y < 60; y++) {
            x.put(7, y, true);
        }
        Due.is("of all rests by 60", x.energy(7), 216000);
        x = Due.withSet(0, 60);
        for (int y = 1; y <= 60; y++) {
            x.put(7, y, true);
        }
        Due.is("of 1 .. 60: (2 n n n + n) / 3", x.energy(7), 144020);
        Due.is("and again", x.energy(7), 144020);
        SumBench last = x;
        for (int k : NO_SETS) {
            Due.throwsIt("energy", IndexOutOfBoundsException.class, () -> last.energy(k));
        }
    }

    private static void promise26Order() {
        Due.is("of an empty set", Due.withSet(0, 20).order(0), -1);
        Due.is("without 1", Due.withSet(0, 20, 2, 3).order(0), -1);
        Due.is("of 1 alone", Due.withSet(0, 60, 1).order(0), 60);
        Due.is("of 1 .. 1", Due.withSet(0, 1, 1).order(0), 1);
        Due.is("of 1 3 in 1 .. 5", Due.withSet(0, 5, 1, 3).order(0), 3);
        Due.is("of squares", Due.withSet(0, 60, 1, 4, 9, 16, 25, 36, 49).order(0), 4);
        Due.is("of 1 5 6: 10 and 18 are not 6 first", Due.withSet(0, 10, 1, 5, 6).order(0), 4);
        Due.is("of 1 5 6 to 11", Due.withSet(0, 11, 1, 5, 6).order(0), 4);
        SumBench all = Due.withSet(0, 3, 1, 2, 3);
        Due.is("of all", all.order(0), 1);
        Due.is("of rests", Due.withSet(1, 5, 0, 1, 2, 3, 4).order(0), -1);
        Due.is("of threes", Due.withSet(2, 1, 0, 1, 2).order(0), -1);
        for (int k : NO_SETS) {
            Due.throwsIt("order", IndexOutOfBoundsException.class, () -> all.order(k));
        }
    }

    private static void promise27Keep() {
        SumBench x = Due.withSet(0, 3, 2);
        // Seed 0: 13849 MOD 3 = 1: 2. Then 48742 MOD 2 = 0: 1. Then 3 alone.
        x.law(0, 3, 0, 0, false);
        Due.is("keep", x.keep(0, 0), 2);
        Due.same("2 and 1, not 3", Due.set(x, 0), "(1 2)");
        // Seed 1: 39022 MOD 3 = 1: 2. Then 61087 MOD 2 = 1: 3. Then 1 alone.
        Due.is("keep", x.keep(0, 1), 2);
        Due.same("2 and 3, not 1", Due.set(x, 0), "(2 3)");
        // Seed 65535: 54212 MOD 3 = 2: 3. Then 36397 MOD 2 = 1: 2. Then 1 alone.
        Due.is("keep", x.keep(7, 65535), 2);
        Due.same("3 and 2, not 1", Due.set(x, 7), "(2 3)");
        x.drop();
        Due.is("without laws all come", x.keep(0, 5), 3);
        SumBench rests = Due.withSet(1, 5);
        rests.law(1, 0, 0, 0, false);
        for (int seed = 0; seed < 50; seed++) {
            Due.is("0 never comes, and two others are kept", rests.keep(1, seed), 2);
            Due.is("it is full", rests.room(1), -1);
        }
        for (int seed : new int[] {-1, 65536, Integer.MIN_VALUE, Integer.MAX_VALUE}) {
            Due.throwsIt("keep", IllegalArgumentException.class, () -> x.keep(0, seed));
        }
        for (int k : NO_SETS) {
            Due.throwsIt("keep", IndexOutOfBoundsException.class, () -> x.keep(k, 1));
        }
        Due.same("the set stays", Due.set(x, 0), "(1 2 3)");
    }

    public static void main(String[] args) {
        promise24Sums();
        promise25Energy();
        promise26Order();
        promise27Keep();
        Due.end("ReckonTest");
    }
}
