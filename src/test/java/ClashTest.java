import java.util.NoSuchElementException;

/** Promises 12 to 14: the first CLASH of each LAW, its witness, and room. */
public final class ClashTest {
    private ClashTest() {
    }

    private static void rows() {
        SumBench x = Due.bench(0, 20, 0, 3, 0, 0, false);
        Due.clashIs(x, null);
        Due.clashIs(x, null, 1, 2, 4, 5, 10, 11, 13, 14);
        Due.clashIs(x, "(1 2 0 0)", 1, 2, 3);
        Due.clashIs(x, "(2 11 0 0)", 2, 11, 20);
        Due.clashIs(x, "(4 6 0 0)", 1, 4, 6, 8, 12);
        Due.clashIs(Due.bench(0, 20, 0, 4, 0, 0, true), "(2 4 0 0)", 1, 2, 4, 6, 8);
        Due.clashIs(Due.bench(0, 20, 0, 4, 0, 0, true), null, 1, 2, 3, 5, 6, 8);
        Due.clashIs(Due.bench(0, 60, 0, 6, 0, 0, false), "(10 20 0 0)", 10, 20, 30, 40, 50, 60);
        Due.clashIs(Due.bench(0, 60, 0, 6, 0, 0, false), null, 1, 2, 3, 4, 5, 7, 8, 9, 10);
        Due.clashIs(Due.bench(0, 60, 0, 5, 0, 0, false), "(1 2 0 0)", 1, 2, 3, 4, 5);
        Due.clashIs(Due.bench(1, 7, 0, 3, 0, 0, false), "(0 3 0 0)", 0, 3, 6);
        Due.clashIs(Due.bench(1, 7, 0, 3, 0, 0, false), "(0 4 0 0)", 0, 1, 4);
        Due.clashIs(Due.bench(1, 4, 0, 3, 0, 0, false), null, 0, 2);
        Due.clashIs(Due.bench(1, 4, 0, 3, 0, 0, false), "(1 2 0 0)", 1, 2, 3);
        Due.clashIs(Due.bench(1, 3, 0, 3, 0, 0, false), "(0 1 0 0)", 0, 1, 2);
        Due.clashIs(Due.bench(1, 3, 0, 4, 0, 0, false), null, 0, 1, 2);
        Due.clashIs(Due.bench(1, 6, 0, 4, 0, 0, false), null, 0, 2, 4);
        Due.clashIs(Due.bench(1, 6, 0, 4, 0, 0, false), "(1 0 0 0)", 0, 1, 4, 5);
        Due.clashIs(Due.bench(2, 2, 0, 3, 0, 0, false), "(0 4 0 0)", 0, 4, 8);
        Due.clashIs(Due.bench(2, 2, 0, 3, 0, 0, false), "(1 5 0 0)", 1, 5, 6);
        Due.clashIs(Due.bench(2, 2, 0, 3, 0, 0, false), null, 0, 1, 3, 4);
        Due.clashIs(Due.bench(2, 1, 0, 4, 0, 0, false), null, 0, 1, 2);
    }

    private static void sumsAndProducts() {
        Due.clashIs(Due.bench(0, 20, 1, 0, 0, 0, false), "(2 2 4 0)", 2, 4);
        Due.clashIs(Due.bench(0, 20, 1, 0, 0, 0, true), null, 2, 4);
        Due.clashIs(Due.bench(0, 20, 1, 0, 0, 0, true), "(2 4 6 0)", 2, 4, 6);
        Due.clashIs(Due.bench(0, 20, 1, 0, 0, 0, false), null, 11, 12, 20);
        Due.clashIs(Due.bench(0, 20, 1, 0, 0, 0, false), "(1 19 20 0)", 1, 19, 20);
        Due.clashIs(Due.bench(1, 5, 1, 0, 0, 0, false), "(0 0 0 0)", 0);
        Due.clashIs(Due.bench(1, 5, 1, 0, 0, 0, true), null, 0, 1);
        Due.clashIs(Due.bench(1, 5, 1, 0, 0, 0, false), "(3 3 1 0)", 1, 3);
        Due.clashIs(Due.bench(1, 5, 1, 0, 0, 0, true), "(2 4 1 0)", 1, 2, 4);
        Due.clashIs(Due.bench(2, 2, 1, 0, 0, 0, false), "(4 4 8 0)", 4, 8);
        Due.clashIs(Due.bench(2, 2, 1, 0, 0, 0, true), "(2 5 4 0)", 2, 4, 5);
        Due.clashIs(Due.bench(0, 20, 2, 0, 0, 0, false), "(1 1 1 0)", 1);
        Due.clashIs(Due.bench(0, 20, 2, 0, 0, 0, true), null, 1, 5);
        Due.clashIs(Due.bench(0, 20, 2, 0, 0, 0, false), "(2 2 4 0)", 2, 4);
        Due.clashIs(Due.bench(0, 20, 2, 0, 0, 0, true), "(3 4 12 0)", 3, 4, 12, 20, 5);
        Due.clashIs(Due.bench(0, 20, 2, 0, 0, 0, false), null, 5, 6, 7);
        Due.clashIs(Due.bench(0, 60, 2, 0, 0, 0, false), null, 8, 60);
        Due.clashIs(Due.bench(1, 7, 2, 0, 0, 0, false), "(3 3 2 0)", 2, 3);
        Due.clashIs(Due.bench(1, 7, 2, 0, 0, 0, true), "(3 4 5 0)", 3, 4, 5);
        Due.clashIs(Due.bench(2, 2, 2, 0, 0, 0, false), "(4 4 4 0)", 4, 5);
        Due.clashIs(Due.bench(2, 2, 2, 0, 0, 0, false), null, 2, 5);
        Due.clashIs(Due.bench(2, 2, 2, 0, 0, 0, true), "(1 5 2 0)", 1, 2, 5);
    }

    private static void apart() {
        Due.clashIs(Due.bench(0, 20, 3, 0, 0, 0, false), "(1 3 2 2)", 1, 2, 3);
        Due.clashIs(Due.bench(0, 20, 3, 0, 0, 0, true), "(1 3 2 2)", 1, 2, 3);
        Due.clashIs(Due.bench(0, 20, 3, 0, 0, 0, false), null, 1, 2, 5, 7);
        Due.clashIs(Due.bench(0, 20, 3, 0, 0, 0, false), "(16 20 17 19)", 1, 16, 17, 19, 20);
        Due.clashIs(Due.bench(1, 7, 3, 0, 0, 0, false), null, 0, 1, 3);
        Due.clashIs(Due.bench(1, 7, 3, 0, 0, 0, false), "(0 0 3 4)", 0, 3, 4);
        Due.clashIs(Due.bench(1, 6, 3, 0, 0, 0, false), "(1 1 4 4)", 1, 4);
        Due.clashIs(Due.bench(1, 7, 3, 0, 0, 0, false), "(0 5 6 6)", 0, 5, 6);
        Due.clashIs(Due.bench(2, 2, 3, 0, 0, 0, false), null, 0, 1, 3);
        Due.clashIs(Due.bench(2, 2, 3, 0, 0, 0, false), "(0 0 1 2)", 0, 1, 2);
        Due.clashIs(Due.bench(2, 2, 3, 0, 0, 0, false), "(0 4 1 3)", 0, 1, 3, 4);
    }

    private static void equations() {
        Due.clashIs(Due.bench(0, 20, 4, 1, 1, -2, false), "(3 3 3 0)", 3);
        Due.clashIs(Due.bench(0, 20, 4, 1, 1, -2, true), "(3 7 5 0)", 3, 5, 7);
        Due.clashIs(Due.bench(0, 20, 4, 1, 1, 1, false), null, 1, 2, 3, 4);
        Due.clashIs(Due.bench(0, 20, 4, 2, -1, 0, false), "(3 6 0 0)", 3, 6);
        Due.clashIs(Due.bench(0, 20, 4, 0, 3, -1, false), "(0 2 6 0)", 1, 2, 6);
        Due.clashIs(Due.bench(0, 20, 4, -1, 0, 3, true), "(6 0 2 0)", 1, 2, 6);
        Due.clashIs(Due.bench(0, 20, 4, 1, -1, 0, false), "(5 5 0 0)", 5);
        Due.clashIs(Due.bench(0, 20, 4, 1, -1, 0, true), null, 5, 6);
        Due.clashIs(Due.bench(0, 60, 4, 9, 9, -9, true), "(20 40 60 0)", 20, 40, 60);
        Due.clashIs(Due.bench(0, 60, 4, 9, 9, -1, false), null, 50, 60);
        Due.clashIs(Due.bench(0, 60, 4, -9, 0, 9, false), "(60 0 60 0)", 60);
        Due.clashIs(Due.bench(0, 60, 4, 9, -9, 0, false), "(60 60 0 0)", 60);
        Due.clashIs(Due.bench(0, 60, 4, 0, 9, -9, false), "(0 60 60 0)", 60);
        Due.clashIs(Due.bench(0, 60, 4, -9, 1, 1, false), "(10 30 60 0)", 10, 30, 60);
        Due.clashIs(Due.bench(1, 6, 4, 2, 2, 2, false), "(1 1 1 0)", 1);
        Due.clashIs(Due.bench(1, 6, 4, 2, 2, 2, false), "(0 0 0 0)", 0, 1, 2, 5);
        Due.clashIs(Due.bench(1, 6, 4, 2, 2, 2, true), "(0 1 2 0)", 0, 1, 2, 5);
        Due.clashIs(Due.bench(1, 6, 4, 6, 6, 0, true), "(2 3 0 0)", 2, 3);
        Due.clashIs(Due.bench(1, 6, 4, 6, 6, 0, true), null, 3);
        Due.clashIs(Due.bench(1, 5, 4, -3, 1, 0, false), "(2 1 0 0)", 1, 2);
        Due.clashIs(Due.bench(1, 5, 4, 0, 1, 1, true), "(0 1 4 0)", 0, 1, 4);
        Due.clashIs(Due.bench(2, 2, 4, 1, 1, 1, true), "(1 3 8 0)", 1, 3, 8);
        Due.clashIs(Due.bench(2, 2, 4, 4, -2, 0, true), "(1 2 0 0)", 1, 2);
        Due.clashIs(Due.bench(2, 2, 4, 3, 1, 0, false), "(0 0 0 0)", 0, 1);
        Due.clashIs(Due.bench(2, 2, 4, 3, 1, 0, true), "(1 0 0 0)", 0, 1);
    }

    private static void promise12Order() {
        SumBench x = Due.bench(0, 20, 3, 0, 0, 0, false);
        x.law(1, 0, 0, 0, false);
        x.law(0, 3, 0, 0, false);
        Due.put(x, 5, 1, 2, 9);
        Due.is("of the least law that has one", x.clash(5), 1);
        Due.same("witness", Due.witness(x), "(1 1 2 0)");
        Due.put(x, 5, 3);
        Due.is("of the least law", x.clash(5), 0);
        Due.same("witness", Due.witness(x), "(1 3 2 2)");
        Due.same("the set stays", Due.set(x, 5), "(1 2 3 9)");
        Due.is("another set", x.clash(4), -1);
        Due.same("the witness stays", Due.witness(x), "(1 3 2 2)");
        for (int k : new int[] {-1, 8, Integer.MAX_VALUE}) {
            Due.throwsIt("clash", IndexOutOfBoundsException.class, () -> x.clash(k));
        }
        Due.same("the witness stays", Due.witness(x), "(1 3 2 2)");
    }

    private static void promise13Witness() {
        SumBench x = Due.bench(0, 20, 1, 0, 0, 0, false);
        Due.put(x, 0, 2, 4);
        Due.is("room does not tell a clash", x.room(0), -2);
        Due.throwsIt("no clash() yet", NoSuchElementException.class, () -> x.witness(0));
        Due.is("clash", x.clash(1), -1);
        Due.throwsIt("none that was not NONE", NoSuchElementException.class, () -> x.witness(0));
        Due.is("clash", x.clash(0), 0);
        for (int i : new int[] {-1, 4, Integer.MIN_VALUE, Integer.MAX_VALUE}) {
            Due.throwsIt("another i", NoSuchElementException.class, () -> x.witness(i));
        }
        Due.put(x, 1, 3, 6);
        x.room(1);
        x.drop();
        x.greatest(2, 100);
        Due.same("it stays", Due.witness(x), "(2 2 4 0)");
        x.ground(0, 20);
        for (int i = 0; i < 4; i++) {
            int place = i;
            Due.throwsIt("gone with the ground", NoSuchElementException.class, () -> x.witness(place));
        }
    }

    private static void promise14Room() {
        SumBench x = Due.bench(0, 9, 0, 3, 0, 0, false);
        Due.is("room of an empty set", x.room(0), 1);
        Due.put(x, 0, 1, 2);
        Due.is("room", x.room(0), 4);
        Due.put(x, 0, 4, 8, 9);
        Due.is("full", x.room(0), -1);
        Due.put(x, 0, 3);
        Due.is("broken", x.room(0), -2);
        Due.same("the set stays", Due.set(x, 0), "(1 2 3 4 8 9)");
        SumBench rests = Due.bench(1, 5, 1, 0, 0, 0, false);
        Due.is("0 never comes in", rests.room(0), 1);
        Due.put(rests, 0, 1);
        Due.is("nor 2, nor 3", rests.room(0), 4);
        Due.put(rests, 0, 4);
        Due.is("full", rests.room(0), -1);
        SumBench apart = Due.bench(2, 3, 3, 0, 0, 0, false);
        Due.put(apart, 0, 0, 1, 3);
        Due.is("room of APART", apart.room(0), 9);
        SumBench longRow = Due.bench(1, 8, 0, 4, 0, 0, false);
        Due.put(longRow, 0, 0, 1, 7);
        Due.is("2 and 6 would make a row", longRow.room(0), 3);
        Due.put(longRow, 0, 3);
        Due.is("then 4 is free", longRow.room(0), 4);
        SumBench free = new SumBench();
        for (int y = 1; y <= 20; y++) {
            Due.is("no laws", free.room(1), y);
            Due.put(free, 1, y);
        }
        Due.is("all are in", free.room(1), -1);
        for (int k : new int[] {-1, 8, Integer.MIN_VALUE}) {
            Due.throwsIt("room", IndexOutOfBoundsException.class, () -> x.room(k));
        }
    }

    public static void main(String[] args) {
        rows();
        sumsAndProducts();
        apart();
        equations();
        promise12Order();
        promise13Witness();
        promise14Room();
        Due.end("ClashTest");
    }
}
