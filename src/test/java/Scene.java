/** A small object with every kind of tensor, and numbers that are no handles in it. */
final class Scene {
    /** A 2 x 3 leaf with the elements 1 .. 6. */
    static final int LEAF = 0;
    /** A leaf of rank 0 with the element 7. */
    static final int SCALAR = 1;
    /** A 3 x 2 view of LEAF. */
    static final int TURNED = 2;
    /** No handle any more; its 2 x 2 result is still needed. The next handle to be given. */
    static final int FREE = 3;
    /** A 2 x 2 view of SUMS. */
    static final int SPREAD = 4;
    /** A result of rank 1 with 2 elements. */
    static final int SUMS = 5;
    /** A 2 x 2 x 2 leaf with the elements 1 .. 8. */
    static final int DEEP = 6;
    /** A 2 x 2 x 1 view of DEEP. */
    static final int SLICED = 7;
    /** A 3 x 2 result. */
    static final int RESHAPED = 8;
    /** A leaf of rank 1 with the elements 1, 2, 3. */
    static final int ROW = 9;

    static final int[] ALL = {LEAF, SCALAR, TURNED, SUMS, DEEP, SLICED, RESHAPED, ROW, SPREAD};
    static final int[] LEAVES = {LEAF, SCALAR, DEEP, ROW};
    static final int[] VIEWS_OF_LEAVES = {TURNED, SLICED};
    static final int[] RESULTS = {SUMS, RESHAPED};
    static final int[] VIEWS_OF_RESULTS = {SPREAD};

    /** Dropped, not given yet, just outside, far outside, and (times 3) wrapping around to -1 and to 2. */
    static final int[] NO_HANDLES = {FREE, 10, 23, -1, 24, 25, 32, 88, 1431655765, 1431655766,
        Integer.MAX_VALUE, Integer.MIN_VALUE};

    private Scene() {
    }

    static void set(LazyTensorTape x) {
        Check.due("leaf", Check.counted(x, 2, 3), LEAF);
        Check.due("scalar", x.leaf(0, 0, 0, 0), SCALAR);
        x.put(SCALAR, 0, 7);
        Check.due("turned", x.transpose(LEAF, 0, 1), TURNED);
        Check.due("product", x.multiply(LEAF, TURNED), FREE);
        // A tensor that is gone in the end: a new one may get its room, between those of two results.
        int gone = x.leaf(3, 4, 4, 4);
        Check.due("sums", x.fold(FREE, 0), SUMS);
        Check.due("deep", Check.counted(x, 2, 2, 2), DEEP);
        Check.due("sliced", x.slice(DEEP, 2, 1, Check.code(1, 0)), SLICED);
        Check.due("reshaped", x.reshape(LEAF, Check.packed(3, 2)), RESHAPED);
        Check.due("row", Check.counted(x, 3), ROW);
        Check.due("drop", x.drop(gone), true);
        Check.due("spread", x.expand(SUMS, 0, 2), SPREAD);
        Check.due("gradient", x.gradient(SUMS, LEAF), true);
        Check.due("drop", x.drop(FREE), true);
    }

    static LazyTensorTape make() {
        LazyTensorTape x = new LazyTensorTape();
        set(x);
        return x;
    }
}
