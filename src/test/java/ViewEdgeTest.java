import java.util.Arrays;

/** The edges of promises 3 (transpose), 4 (slice) and 5 (expand). */
public final class ViewEdgeTest {
    private static final int[] FAR = {-2, 3, 4, 24, 1 << 30, Integer.MAX_VALUE, Integer.MIN_VALUE};
    /** One tensor of each rank, and that rank. */
    private static final int[] BY_RANK = {Scene.SCALAR, Scene.ROW, Scene.LEAF, Scene.DEEP};

    public static void main(String[] args) {
        transposeOfNoHandle();
        transposeAxesAreBelowTheRank();
        transposeAxesMayBeEqual();
        transposeIsAView();
        sliceOfNoHandle();
        sliceAxisIsBelowTheRank();
        sliceCodesAre8To39();
        sliceCountsAreOneToFour();
        sliceStepsAreMinusFourToThree();
        slicePositionsAreInTheDimension();
        slicePositionsDoNotWrapAround();
        sliceIsAView();
        expandOfNoHandle();
        expandDimensionsAreOneToFour();
        expandAxesAreZeroToTheRank();
        expandRankIsBelowThree();
        expandIsAView();
        Check.end();
    }

    /** Promise 3: "tensor h" must be one. */
    private static void transposeOfNoHandle() {
        for (int h : Scene.NO_HANDLES) {
            Twins.refuseToMake("transpose of " + h, Scene::set, x -> x.transpose(h, 0, 0));
        }
    }

    /** Promise 3: "the axes a and b (0 the first) of tensor h; both must be below its rank" */
    private static void transposeAxesAreBelowTheRank() {
        for (int rank = 0; rank <= 3; rank++) {
            int h = BY_RANK[rank];
            for (int axis = 0; axis < rank; axis++) {
                LazyTensorTape x = Scene.make();
                Check.due("axes 0 and " + axis, x.transpose(h, 0, axis), Scene.FREE);
                Check.due("axes " + axis + " and the last", x.transpose(h, axis, rank - 1), 10);
            }
            transposeRefusals(h, rank);
            transposeRefusals(h, -1);
            for (int axis : FAR) {
                transposeRefusals(h, axis);
            }
        }
    }

    private static void transposeRefusals(int h, int axis) {
        Twins.refuseToMake("transpose of " + h + ", a " + axis, Scene::set, x -> x.transpose(h, axis, 0));
        Twins.refuseToMake("transpose of " + h + ", b " + axis, Scene::set, x -> x.transpose(h, 0, axis));
        Twins.refuseToMake("transpose of " + h + ", both " + axis, Scene::set, x -> x.transpose(h, axis, axis));
    }

    /** Promise 3: "they may be equal" */
    private static void transposeAxesMayBeEqual() {
        LazyTensorTape x = Scene.make();
        Check.shows("both 0", x, x.transpose(Scene.LEAF, 0, 0), Check.packed(2, 3), 1, 2, 3, 4, 5, 6);
        Check.shows("both 1", x, x.transpose(Scene.LEAF, 1, 1), Check.packed(2, 3), 1, 2, 3, 4, 5, 6);
        Check.shows("both 2", x, x.transpose(Scene.DEEP, 2, 2), Check.packed(2, 2, 2), 1, 2, 3, 4, 5, 6, 7, 8);
    }

    /** Promise 3: "A view", with equal axes too: it shows and sets the leaf's elements but is not the leaf itself. */
    private static void transposeIsAView() {
        for (int b = 0; b < 2; b++) {
            viewOfALeaf("transpose", b == 0 ? x -> x.transpose(0, 0, 0) : x -> x.transpose(0, 0, 1));
        }
    }

    /** Handle 0 is a 2 x 2 leaf with the elements 1 .. 4, and the view shows its element 0 first. */
    private static void viewOfALeaf(String what, Twins.MakingCall call) {
        Twins.Scene scene = x -> {
            Check.counted(x, 2, 2);
            x.leaf(2, 2, 2, 0);
            call.on(x);
        };
        LazyTensorTape x = new LazyTensorTape();
        scene.set(x);
        Check.due(what + " takes no elements", x.live(), 8);
        x.put(0, 0, 9);
        Check.due(what + " shows the leaf's element now", x.at(2, 0), 9);
        Check.due("put on a " + what, x.put(2, 0, 8), true);
        Check.due("the leaf's element after put on a " + what, x.at(0, 0), 8);
        Twins.refuseToSet("assign to a " + what, scene, y -> y.assign(2, 1));
        Twins.refuseToSet("gradient by a " + what, scene, y -> y.gradient(0, 2));
    }

    /** Promise 4: h must be a handle. */
    private static void sliceOfNoHandle() {
        for (int h : Scene.NO_HANDLES) {
            Twins.refuseToMake("slice of " + h, Scene::set, x -> x.slice(h, 0, 0, Check.code(1, 0)));
        }
    }

    /** Promise 4: "Refuses if axis is not below the rank" */
    private static void sliceAxisIsBelowTheRank() {
        for (int rank = 0; rank <= 3; rank++) {
            int h = BY_RANK[rank];
            for (int axis = 0; axis < rank; axis++) {
                LazyTensorTape x = Scene.make();
                Check.due("slice along " + axis, x.slice(h, axis, 0, Check.code(1, 0)), Scene.FREE);
                Check.due("dimension there", x.shape(Scene.FREE) >> (3 + 3 * axis) & 7, 1);
            }
            sliceRefusal(h, rank, 0, Check.code(1, 0));
            sliceRefusal(h, -1, 0, Check.code(1, 0));
            for (int axis : FAR) {
                sliceRefusal(h, axis, 0, Check.code(1, 0));
            }
        }
    }

    private static void sliceRefusal(int h, int axis, int from, int code) {
        String what = "slice(" + h + ", " + axis + ", " + from + ", " + code + ")";
        Twins.refuseToMake(what, Scene::set, x -> x.slice(h, axis, from, code));
    }

    /** Promise 4: "Refuses if .. code is outside 8..39" */
    private static void sliceCodesAre8To39() {
        LazyTensorTape x = Scene.make();
        Check.shows("code 8", x, x.slice(Scene.ROW, 0, 2, 8), Check.packed(1), 3);
        Check.shows("code 15", x, x.slice(Scene.ROW, 0, 2, 15), Check.packed(1), 3);
        Check.shows("code 37", x, x.slice(x.leaf(1, 4, 0, 0), 0, 0, 37), Check.packed(4), 0, 0, 0, 0);
        int[] outside = {0, 1, 4, 7, 40, 44, 47, -1, -4, -8, -12, 64 + 12, 4096 + 12, Integer.MIN_VALUE + 12,
            Integer.MAX_VALUE, Integer.MIN_VALUE};
        for (int code : outside) {
            for (int from = 0; from < 4; from++) {
                int f = from;
                Twins.refuseToMake("slice of 4 from " + from + " with code " + code, y -> Check.counted(y, 4),
                    y -> y.slice(0, 0, f, code));
            }
        }
        // Codes 38 and 39 are not outside, but four positions with step 2 or 3 are never all in a dimension.
        for (int from = 0; from < 3; from++) {
            sliceRefusal(Scene.ROW, 0, from, 38);
            sliceRefusal(Scene.ROW, 0, from, 39);
        }
    }

    /** Promise 4: "count = code / 8 (1..4 ..)": "its dimension becomes count", less or more than it was. */
    private static void sliceCountsAreOneToFour() {
        for (int count = 1; count <= 4; count++) {
            for (int d = 1; d <= 4; d++) {
                LazyTensorTape x = new LazyTensorTape();
                Check.counted(x, d);
                int[] want = new int[count];
                Arrays.fill(want, d);
                Check.shows("count " + count + " of " + d, x, x.slice(0, 0, d - 1, Check.code(count, 0)),
                    Check.packed(count), want);
            }
        }
    }

    /** Promise 4: "step = code % 8 - 4 (-4..3)": every step that a dimension of 4 has room for, and no other. */
    private static void sliceStepsAreMinusFourToThree() {
        for (int step = -4; step <= 3; step++) {
            for (int count = 1; count <= 4; count++) {
                for (int from = -1; from <= 4; from++) {
                    sliceOfFour(count, step, from);
                }
            }
        }
    }

    private static void sliceOfFour(int count, int step, int from) {
        Twins.Scene scene = x -> Check.counted(x, 4);
        String what = "slice from " + from + " count " + count + " step " + step;
        int[] want = new int[count];
        boolean fits = true;
        for (int n = 0; n < count; n++) {
            int position = from + n * step;
            want[n] = position + 1;
            fits &= position >= 0 && position <= 3;
        }
        if (fits) {
            LazyTensorTape x = new LazyTensorTape();
            scene.set(x);
            Check.due(what, x.slice(0, 0, from, Check.code(count, step)), 1);
            Check.shows(what, x, 1, Check.packed(count), want);
        } else {
            Twins.refuseToMake(what, scene, x -> x.slice(0, 0, from, Check.code(count, step)));
        }
    }

    /** Promise 4: "Refuses if .. one of the positions is outside the dimension": the first, or the last. */
    private static void slicePositionsAreInTheDimension() {
        LazyTensorTape x = Scene.make();
        Check.shows("0, 2", x, x.slice(Scene.ROW, 0, 0, Check.code(2, 2)), Check.packed(2), 1, 3);
        Check.shows("2, 0", x, x.slice(Scene.ROW, 0, 2, Check.code(2, -2)), Check.packed(2), 3, 1);
        Check.shows("2, 1, 0", x, x.slice(Scene.ROW, 0, 2, Check.code(3, -1)), Check.packed(3), 3, 2, 1);
        sliceRefusal(Scene.ROW, 0, -1, Check.code(1, 0));
        sliceRefusal(Scene.ROW, 0, 3, Check.code(1, 0));
        sliceRefusal(Scene.ROW, 0, -1, Check.code(2, 1));
        sliceRefusal(Scene.ROW, 0, -1, Check.code(2, 3));
        sliceRefusal(Scene.ROW, 0, 3, Check.code(2, -1));
        sliceRefusal(Scene.ROW, 0, 4, Check.code(2, -4));
        sliceRefusal(Scene.ROW, 0, 3, Check.code(2, 0));
        sliceRefusal(Scene.ROW, 0, 1, Check.code(2, 2));
        sliceRefusal(Scene.ROW, 0, 0, Check.code(2, 3));
        sliceRefusal(Scene.ROW, 0, 1, Check.code(2, -2));
        sliceRefusal(Scene.ROW, 0, 1, Check.code(3, -1));
        sliceRefusal(Scene.ROW, 0, 1, Check.code(3, 1));
        // The dimension is that of the axis and of the view, not of another axis or of the leaf.
        sliceRefusal(Scene.LEAF, 0, 2, Check.code(1, 0));
        sliceRefusal(Scene.SLICED, 2, 1, Check.code(1, 0));
        sliceRefusal(Scene.SLICED, 2, -1, Check.code(1, 0));
        Check.shows("axis 1", x, x.slice(Scene.LEAF, 1, 2, Check.code(1, 0)), Check.packed(2, 1), 3, 6);
    }

    /** Promise 4: a position far outside is outside, also where from + step or its place would wrap around. */
    private static void slicePositionsDoNotWrapAround() {
        int[] far = {Integer.MAX_VALUE, Integer.MIN_VALUE, Integer.MIN_VALUE + 1, 1 << 30, -(1 << 30),
            1431655766, 1 << 16, 64, -64};
        for (int from : far) {
            for (int step = -4; step <= 3; step++) {
                sliceRefusal(Scene.ROW, 0, from, Check.code(1, step));
                sliceRefusal(Scene.ROW, 0, from, Check.code(4, step));
            }
        }
    }

    /** Promise 4: "A view." */
    private static void sliceIsAView() {
        viewOfALeaf("slice", x -> x.slice(0, 0, 0, Check.code(2, 1)));
        LazyTensorTape x = new LazyTensorTape();
        Check.counted(x, 3);
        x.slice(0, 0, 1, Check.code(4, 0));
        Check.due("put where the same element is shown four times", x.put(1, 3, 9), true);
        Check.shows("all four", x, 1, Check.packed(4), 9, 9, 9, 9);
        Check.shows("the leaf", x, 0, Check.packed(3), 1, 9, 3);
    }

    /** Promise 5: h must be a handle. */
    private static void expandOfNoHandle() {
        for (int h : Scene.NO_HANDLES) {
            Twins.refuseToMake("expand of " + h, Scene::set, x -> x.expand(h, 0, 1));
        }
    }

    /** Promise 5: "an axis of dimension d (1..4)": "all positions along it show the same" */
    private static void expandDimensionsAreOneToFour() {
        LazyTensorTape x = Scene.make();
        Check.shows("d 1", x, x.expand(Scene.ROW, 0, 1), Check.packed(1, 3), 1, 2, 3);
        Check.shows("d 4", x, x.expand(Scene.ROW, 0, 4), Check.packed(4, 3), 1, 2, 3, 1, 2, 3, 1, 2, 3, 1, 2, 3);
        Check.shows("d 1 behind", x, x.expand(Scene.ROW, 1, 1), Check.packed(3, 1), 1, 2, 3);
        Check.shows("d 4 behind", x, x.expand(Scene.ROW, 1, 4), Check.packed(3, 4), 1, 1, 1, 1, 2, 2, 2, 2, 3, 3, 3, 3);
        int[] wrong = {0, 5, -1, -4, 8, 1 << 30, Integer.MAX_VALUE, Integer.MIN_VALUE};
        for (int d : wrong) {
            Twins.refuseToMake("expand by " + d, Scene::set, y -> y.expand(Scene.ROW, 0, d));
        }
    }

    /** Promise 5: "before the given one (axis 0 to the rank ..)" */
    private static void expandAxesAreZeroToTheRank() {
        for (int rank = 0; rank <= 2; rank++) {
            int h = BY_RANK[rank];
            for (int axis = 0; axis <= rank; axis++) {
                LazyTensorTape x = Scene.make();
                Check.due("expand before " + axis, x.expand(h, axis, 4), Scene.FREE);
                Check.due("the rank", x.shape(Scene.FREE) & 7, rank + 1);
                Check.due("the new dimension", x.shape(Scene.FREE) >> (3 + 3 * axis) & 7, 4);
            }
            expandRefusal(h, rank + 1);
            expandRefusal(h, -1);
            for (int axis : FAR) {
                expandRefusal(h, axis == 3 ? rank + 2 : axis);
            }
        }
    }

    private static void expandRefusal(int h, int axis) {
        Twins.refuseToMake("expand of " + h + " before " + axis, Scene::set, x -> x.expand(h, axis, 1));
    }

    /** Promise 5: "the rank, which must be below 3" */
    private static void expandRankIsBelowThree() {
        LazyTensorTape x = Scene.make();
        Check.shows("rank 2", x, x.expand(Scene.LEAF, 1, 2), Check.packed(2, 2, 3), 1, 2, 3, 1, 2, 3, 4, 5, 6, 4, 5, 6);
        for (int axis = 0; axis <= 3; axis++) {
            expandRefusal(Scene.DEEP, axis);
            expandRefusal(Scene.SLICED, axis);
        }
    }

    /** Promise 5: "A view." */
    private static void expandIsAView() {
        viewOfALeaf("expand", x -> x.expand(0, 0, 1));
        LazyTensorTape x = new LazyTensorTape();
        Check.counted(x, 2);
        x.expand(0, 1, 3);
        Check.due("put where the same element is shown three times", x.put(1, 4, 9), true);
        Check.shows("all three", x, 1, Check.packed(2, 3), 1, 1, 1, 9, 9, 9);
    }
}
