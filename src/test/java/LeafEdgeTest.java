/** The edges of promises 1 (a new object) and 2 (leaf). */
public final class LeafEdgeTest {
    private static final int[] NOT_LOOKED_AT = {0, 5, -1, 8, Integer.MAX_VALUE, Integer.MIN_VALUE};

    public static void main(String[] args) {
        nothingExists();
        nothingExistsForCallsThatMake();
        nothingExistsForCallsThatSet();
        objectsAreApart();
        ranks();
        dimensions();
        otherDimensionsAreNotLookedAt();
        elementsAreZero();
        elementsAreZeroInRoomUsedBefore();
        Check.end();
    }

    /** Promise 1: "Nothing exists." */
    private static void nothingExists() {
        LazyTensorTape x = new LazyTensorTape();
        Check.due("live", x.live(), 0);
        for (int h = -1; h <= 24; h++) {
            Check.due("shape(" + h + ")", x.shape(h), -1);
            Check.due("at(" + h + ", 0)", x.at(h, 0), 0);
            Check.due("drop(" + h + ")", x.drop(h), false);
        }
        for (int i = -1; i <= 64; i++) {
            Check.due("slope(" + i + ")", x.slope(i), 0);
        }
        Check.due("the first handle", x.leaf(0, 0, 0, 0), 0);
        Check.due("live with it", x.live(), 1);
    }

    /** Promise 1: "Nothing exists", so nothing can be made from it. */
    private static void nothingExistsForCallsThatMake() {
        Twins.Scene nothing = x -> { };
        for (int h = -1; h <= 24; h++) {
            int none = h;
            Twins.refuseToMake("transpose of " + h, nothing, x -> x.transpose(none, 0, 0));
            Twins.refuseToMake("slice of " + h, nothing, x -> x.slice(none, 0, 0, Check.code(1, 0)));
            Twins.refuseToMake("expand of " + h, nothing, x -> x.expand(none, 0, 1));
            Twins.refuseToMake("reshape of " + h, nothing, x -> x.reshape(none, 0));
            Twins.refuseToMake("combine of " + h, nothing, x -> x.combine(0, none, none));
            Twins.refuseToMake("fold of " + h, nothing, x -> x.fold(none, 0));
            Twins.refuseToMake("multiply of " + h, nothing, x -> x.multiply(none, none));
        }
    }

    /** Promise 1: "Nothing exists", so nothing can be set. */
    private static void nothingExistsForCallsThatSet() {
        Twins.Scene nothing = x -> { };
        for (int h = -1; h <= 24; h++) {
            int none = h;
            Twins.refuseToSet("drop of " + h, nothing, x -> x.drop(none));
            Twins.refuseToSet("put on " + h, nothing, x -> x.put(none, 0, 1));
            Twins.refuseToSet("assign to " + h, nothing, x -> x.assign(none, none));
            Twins.refuseToSet("gradient by " + h, nothing, x -> x.gradient(none, none));
        }
    }

    /** Promise 1: nothing exists in a new object, whatever another one has. */
    private static void objectsAreApart() {
        LazyTensorTape full = Scene.make();
        LazyTensorTape x = new LazyTensorTape();
        Check.due("live", x.live(), 0);
        Check.due("shape", x.shape(0), -1);
        Check.due("slope", x.slope(0), 0);
        Check.due("first handle", x.leaf(2, 2, 3, 0), 0);
        x.put(0, 0, 99);
        Check.shows("leaf of the other", full, Scene.LEAF, Check.packed(2, 3), 1, 2, 3, 4, 5, 6);
    }

    /** Promise 2: "the rank (0..3)" */
    private static void ranks() {
        LazyTensorTape x = new LazyTensorTape();
        Check.due("rank 0", x.leaf(0, 2, 2, 2), 0);
        Check.due("rank 1", x.leaf(1, 2, 2, 2), 1);
        Check.due("rank 2", x.leaf(2, 2, 2, 2), 2);
        Check.due("rank 3", x.leaf(3, 2, 2, 2), 3);
        Check.shows("rank 0", x, 0, 0, 0);
        Check.shows("rank 1", x, 1, Check.packed(2), 0, 0);
        Check.shows("rank 2", x, 2, Check.packed(2, 2), 0, 0, 0, 0);
        Check.shows("rank 3", x, 3, Check.packed(2, 2, 2), 0, 0, 0, 0, 0, 0, 0, 0);
        int[] wrong = {-1, 4, 5, 8, -8, 1 << 30, Integer.MAX_VALUE, Integer.MIN_VALUE};
        for (int rank : wrong) {
            Twins.refuseToMake("rank " + rank, Scene::set, y -> y.leaf(rank, 1, 1, 1));
        }
    }

    /** Promise 2: "the first so many dimensions (each 1..4 ..)": of each rank each dimension. */
    private static void dimensions() {
        int[] wrong = {0, 5, -1, -4, 8, 1 << 29, 1 << 30, Integer.MAX_VALUE, Integer.MIN_VALUE};
        for (int rank = 1; rank <= 3; rank++) {
            for (int axis = 0; axis < rank; axis++) {
                for (int d = 1; d <= 4; d++) {
                    LazyTensorTape x = new LazyTensorTape();
                    Check.due("dimension " + d, leafWith(x, rank, axis, d), 0);
                    Check.due("its number of elements", x.live(), d);
                    Check.due("its shape", Check.size(x.shape(0)), d);
                    Check.due("where it is", x.shape(0) >> (3 + 3 * axis) & 7, d);
                }
                for (int d : wrong) {
                    int r = rank;
                    int a = axis;
                    String what = "dimension " + d + " at axis " + axis + " of rank " + rank;
                    Twins.refuseToMake(what, Scene::set, x -> leafWith(x, r, a, d));
                }
            }
        }
    }

    private static int leafWith(LazyTensorTape x, int rank, int axis, int d) {
        return x.leaf(rank, axis == 0 ? d : 1, axis == 1 ? d : 1, axis == 2 ? d : 1);
    }

    /** Promise 2: "the others are not looked at" */
    private static void otherDimensionsAreNotLookedAt() {
        for (int d : NOT_LOOKED_AT) {
            LazyTensorTape x = new LazyTensorTape();
            Check.due("rank 0 with " + d, x.leaf(0, d, d, d), 0);
            Check.due("rank 1 with " + d, x.leaf(1, 4, d, d), 1);
            Check.due("rank 2 with " + d, x.leaf(2, 4, 3, d), 2);
            Check.shows("rank 0", x, 0, 0, 0);
            Check.shows("rank 1", x, 1, Check.packed(4), 0, 0, 0, 0);
            Check.shows("rank 2", x, 2, Check.packed(4, 3), 0, 0, 0, 0, 0, 0, 0, 0, 0, 0, 0, 0);
            Check.due("live", x.live(), 1 + 4 + 12);
        }
    }

    /** Promise 2: "all elements 0" */
    private static void elementsAreZero() {
        LazyTensorTape x = new LazyTensorTape();
        x.leaf(3, 4, 4, 4);
        for (int i = 0; i < 64; i++) {
            Check.due("element " + i, x.at(0, i), 0);
        }
    }

    /** Promise 2: "all elements 0", also where an earlier tensor was, and the others keep theirs. */
    private static void elementsAreZeroInRoomUsedBefore() {
        LazyTensorTape x = new LazyTensorTape();
        Check.counted(x, 3);
        int used = Check.counted(x, 4, 4, 4);
        Check.counted(x, 3);
        x.drop(used);
        Check.due("the same handle again", x.leaf(3, 4, 4, 4), used);
        for (int i = 0; i < 64; i++) {
            Check.due("element " + i + " after a leaf", x.at(used, i), 0);
        }
        x.drop(used);
        int squares = x.combine(2, 0, 0);
        Check.due("a result there", x.at(squares, 2), 9);
        x.drop(squares);
        x.leaf(1, 4, 0, 0);
        Check.shows("after a result", x, used, Check.packed(4), 0, 0, 0, 0);
        Check.shows("the leaf before", x, 0, Check.packed(3), 1, 2, 3);
        Check.shows("the leaf behind", x, 2, Check.packed(3), 1, 2, 3);
        x.drop(0);
        Check.due("handle 0 again", x.leaf(1, 3, 0, 0), 0);
        Check.shows("at handle 0", x, 0, Check.packed(3), 0, 0, 0);
    }
}
