/** The edges of promises 15 (gradient) and 16 (slope). */
public final class GradientEdgeTest {
    private static final int MOST = Integer.MAX_VALUE;
    private static final int LEAST = Integer.MIN_VALUE;
    private static final int[] FAR = {-1, -2, 64, 65, 2048, 1 << 30, MOST, LEAST};

    public static void main(String[] args) {
        gradientOfNoHandle();
        gradientByNoLeaf();
        gradientByALeafWhereAViewWas();
        gradientOfEveryKind();
        gradientOfWhatDoesNotDependOnTheLeaf();
        gradientAtThePresentElements();
        gradientCountsEachTimeAnElementIsShown();
        gradientOfTheLeastAndTheGreatest();
        gradientDoesNotNeedHandlesBetween();
        derivativesOfSumsWrapAround();
        derivativesOfDifferencesWrapAround();
        derivativesOfProductsWrapAround();
        slopeBeforeAnyGradient();
        slopeIsBelowTheNumberOfElements();
        slopeOfTheLatestGradient();
        slopeAsItWasFoundThen();
        slopeAfterRefusedGradients();
        Check.end();
    }

    private static void gradientRefusal(int h, int k) {
        Twins.refuseToSet("gradient(" + h + ", " + k + ")", Scene::set, x -> x.gradient(h, k));
    }

    /** Promise 15: "False, changing nothing, if h is no handle" */
    private static void gradientOfNoHandle() {
        for (int h : Scene.NO_HANDLES) {
            for (int k : Scene.LEAVES) {
                gradientRefusal(h, k);
            }
            gradientRefusal(h, h);
        }
    }

    /** Promise 15: "False, changing nothing, if .. k is no leaf (itself, not a view)" */
    private static void gradientByNoLeaf() {
        for (int h : Scene.ALL) {
            for (int k : Scene.NO_HANDLES) {
                gradientRefusal(h, k);
            }
            for (int k : Scene.VIEWS_OF_LEAVES) {
                gradientRefusal(h, k);
            }
            for (int k : Scene.RESULTS) {
                gradientRefusal(h, k);
            }
            for (int k : Scene.VIEWS_OF_RESULTS) {
                gradientRefusal(h, k);
            }
        }
        Twins.Scene leafWithoutHandle = x -> {
            Scene.set(x);
            x.drop(Scene.LEAF);
        };
        Twins.refuseToSet("gradient by a leaf whose handle is gone", leafWithoutHandle,
            x -> x.gradient(Scene.SUMS, Scene.LEAF));
        Twins.refuseToSet("gradient by a view of such a leaf", leafWithoutHandle,
            x -> x.gradient(Scene.SUMS, Scene.TURNED));
    }

    /** Promise 15: "k is no leaf" is said of what its handle is now, not of what it was before. */
    private static void gradientByALeafWhereAViewWas() {
        LazyTensorTape x = Scene.make();
        x.drop(Scene.TURNED);
        Check.due("a leaf under the handle of a view", x.leaf(0, 0, 0, 0), Scene.TURNED);
        Check.due("gradient by it", x.gradient(Scene.TURNED, Scene.TURNED), true);
        Check.slopes("by it", x, 1);
    }

    /** Promise 15: "tensor h" may be of any kind, "with respect to every element of leaf k". */
    private static void gradientOfEveryKind() {
        LazyTensorTape x = Scene.make();
        due(x, Scene.LEAF, Scene.LEAF, 1, 1, 1, 1, 1, 1);
        due(x, Scene.TURNED, Scene.LEAF, 1, 1, 1, 1, 1, 1);
        due(x, Scene.RESHAPED, Scene.LEAF, 1, 1, 1, 1, 1, 1);
        due(x, Scene.SUMS, Scene.LEAF, 10, 14, 18, 10, 14, 18);
        due(x, Scene.SPREAD, Scene.LEAF, 20, 28, 36, 20, 28, 36);
        due(x, Scene.SLICED, Scene.DEEP, 0, 1, 0, 1, 0, 1, 0, 1);
        due(x, Scene.SCALAR, Scene.SCALAR, 1);
        due(x, x.combine(2, Scene.SCALAR, Scene.ROW), Scene.ROW, 7, 7, 7);
        due(x, x.combine(1, Scene.SCALAR, Scene.ROW), Scene.ROW, -1, -1, -1);
    }

    private static void due(LazyTensorTape x, int h, int k, int... slopes) {
        Check.due("gradient(" + h + ", " + k + ")", x.gradient(h, k), true);
        Check.slopes("gradient(" + h + ", " + k + ")", x, slopes);
    }

    /** Promise 15: it is no reason to refuse that h was not made from k: all derivatives are 0. */
    private static void gradientOfWhatDoesNotDependOnTheLeaf() {
        LazyTensorTape x = Scene.make();
        due(x, Scene.SUMS, Scene.LEAF, 10, 14, 18, 10, 14, 18);
        due(x, Scene.SUMS, Scene.DEEP, 0, 0, 0, 0, 0, 0, 0, 0);
        due(x, Scene.SCALAR, Scene.ROW, 0, 0, 0);
        due(x, Scene.ROW, Scene.SCALAR, 0);
        int none = x.combine(1, Scene.ROW, Scene.ROW);
        due(x, none, Scene.ROW, 0, 0, 0);
        due(x, x.combine(2, Scene.ROW, none), Scene.ROW, 0, 0, 0);
    }

    /** Promise 15: "at the present elements" */
    private static void gradientAtThePresentElements() {
        LazyTensorTape x = new LazyTensorTape();
        Check.counted(x, 2);
        int cube = x.combine(2, x.combine(2, 0, 0), 0);
        due(x, cube, 0, 3, 12);
        x.put(0, 0, -4);
        due(x, cube, 0, 48, 12);
        x.assign(0, x.combine(0, 0, 0));
        due(x, cube, 0, 192, 48);
        x.put(0, 0, 0);
        due(x, cube, 0, 0, 48);
    }

    /** Promise 15: "an element shown several times counts several times" */
    private static void gradientCountsEachTimeAnElementIsShown() {
        LazyTensorTape x = new LazyTensorTape();
        Check.counted(x, 3);
        due(x, x.slice(0, 0, 1, Check.code(4, 0)), 0, 0, 4, 0);
        int twice = x.expand(0, 0, 4);
        due(x, twice, 0, 4, 4, 4);
        due(x, x.slice(twice, 1, 2, Check.code(2, -2)), 0, 4, 0, 4);
        due(x, x.combine(0, twice, 0), 0, 8, 8, 8);
        due(x, x.combine(2, twice, 0), 0, 8, 16, 24);
        due(x, x.fold(twice, 0), 0, 4, 4, 4);
        due(x, x.reshape(twice, Check.packed(3, 4)), 0, 4, 4, 4);
        due(x, x.multiply(x.expand(0, 1, 1), x.expand(0, 0, 1)), 0, 12, 12, 12);
    }

    /** Promise 15: a leaf of one element and one of 64, of which each has its own derivative. */
    private static void gradientOfTheLeastAndTheGreatest() {
        LazyTensorTape x = new LazyTensorTape();
        Check.counted(x, 4, 4, 4);
        int scalar = x.leaf(0, 0, 0, 0);
        x.put(scalar, 0, 5);
        int squares = x.combine(2, 0, 0);
        int all = x.combine(2, squares, scalar);
        Check.due("by 64 elements", x.gradient(all, 0), true);
        for (int i = 0; i < 64; i++) {
            Check.due("slope " + i, x.slope(i), 10 * (i + 1));
        }
        Check.due("slope 64", x.slope(64), 0);
        due(x, all, scalar, 64 * 65 * 129 / 6);
    }

    /** Promise 15: what h was made from needs no handle, and there may be 31 results between. */
    private static void gradientDoesNotNeedHandlesBetween() {
        LazyTensorTape x = new LazyTensorTape();
        Check.counted(x, 1);
        int h = x.combine(0, 0, 0);
        for (int n = 2; n < 32; n++) {
            int next = x.combine(0, h, 0);
            x.drop(h);
            h = next;
        }
        Check.due("tensors", x.live(), 32);
        due(x, h, 0, 32);
    }

    /** "all in wrapping ints": 31 doublings make 2 to the 31st, which is the least int. */
    private static void derivativesOfSumsWrapAround() {
        LazyTensorTape x = new LazyTensorTape();
        Check.counted(x, 1);
        int h = doubled(x, 0, 30);
        due(x, h, 0, 1 << 30);
        int last = x.combine(0, h, h);
        due(x, last, 0, LEAST);
        due(x, x.expand(last, 0, 2), 0, 0);
        due(x, x.expand(last, 0, 3), 0, LEAST);
        LazyTensorTape y = new LazyTensorTape();
        Check.counted(y, 2);
        int half = doubled(y, 0, 29);
        due(y, half, 0, 1 << 29, 1 << 29);
        due(y, y.fold(y.expand(half, 0, 4), 0), 0, LEAST, LEAST);
    }

    private static int doubled(LazyTensorTape x, int leaf, int times) {
        int h = leaf;
        for (int n = 0; n < times; n++) {
            int next = x.combine(0, h, h);
            if (h != leaf) {
                x.drop(h);
            }
            h = next;
        }
        return h;
    }

    /** "all in wrapping ints": less than the least, and the least with its sign changed. */
    private static void derivativesOfDifferencesWrapAround() {
        LazyTensorTape x = new LazyTensorTape();
        x.leaf(0, 0, 0, 0);
        x.leaf(0, 0, 0, 0);
        x.put(1, 0, LEAST);
        int product = x.combine(2, 0, 1);
        int zero = x.leaf(0, 0, 0, 0);
        due(x, product, 0, LEAST);
        due(x, x.combine(1, zero, product), 0, LEAST);
        due(x, x.combine(1, product, 0), 0, MOST);
        x.put(1, 0, MOST);
        due(x, x.combine(1, zero, product), 0, -MOST);
        due(x, x.combine(1, x.combine(1, zero, product), 0), 0, LEAST);
        due(x, x.combine(1, x.combine(1, zero, product), x.combine(0, 0, 0)), 0, MOST);
    }

    /** "all in wrapping ints": a derivative times an element, and the sum of two of them. */
    private static void derivativesOfProductsWrapAround() {
        LazyTensorTape x = new LazyTensorTape();
        x.leaf(0, 0, 0, 0);
        int square = x.combine(2, 0, 0);
        int cube = x.combine(2, square, 0);
        x.put(0, 0, 1 << 30);
        due(x, square, 0, LEAST);
        due(x, cube, 0, 0);
        x.put(0, 0, MOST);
        due(x, square, 0, -2);
        due(x, cube, 0, 3);
        x.put(0, 0, LEAST);
        due(x, square, 0, 0);
        x.put(0, 0, 46341);
        due(x, cube, 0, -2147469749);
        LazyTensorTape y = new LazyTensorTape();
        y.leaf(2, 1, 2, 0);
        y.leaf(2, 2, 2, 0);
        y.put(1, 0, MOST);
        y.put(1, 1, 1);
        y.put(1, 2, LEAST);
        y.put(1, 3, -1);
        due(y, y.multiply(0, 1), 0, LEAST, MOST);
    }

    /** Promise 16: "0 if there was none" */
    private static void slopeBeforeAnyGradient() {
        LazyTensorTape x = new LazyTensorTape();
        Check.counted(x, 4, 4);
        Check.due("a refused gradient", x.gradient(0, 1), false);
        for (int i = 0; i <= 64; i++) {
            Check.due("slope " + i, x.slope(i), 0);
        }
        for (int i : FAR) {
            Check.due("slope " + i, x.slope(i), 0);
        }
    }

    /** Promise 16: "0 if .. i was not below the number of elements", or is negative. */
    private static void slopeIsBelowTheNumberOfElements() {
        int[] sizes = {6, 1, 8, 3};
        for (int n = 0; n < sizes.length; n++) {
            LazyTensorTape x = Scene.make();
            int leaf = Scene.LEAVES[n];
            Check.due("gradient by " + leaf, x.gradient(leaf, leaf), true);
            for (int i = 0; i < 64; i++) {
                Check.due("slope " + i, x.slope(i), i < sizes[n] ? 1 : 0);
            }
            for (int i : FAR) {
                Check.due("slope " + i, x.slope(i), 0);
                Twins.refuse("slope " + i, Scene::set, y -> y.slope(i), 0);
            }
        }
    }

    /** Promise 16: "of the latest accepted gradient": of a smaller leaf after a greater one, and back. */
    private static void slopeOfTheLatestGradient() {
        LazyTensorTape x = new LazyTensorTape();
        x.leaf(3, 4, 4, 4);
        x.leaf(0, 0, 0, 0);
        x.gradient(0, 0);
        Check.due("slope 63 of 64", x.slope(63), 1);
        x.gradient(1, 1);
        Check.due("slope 0 of 1", x.slope(0), 1);
        for (int i = 1; i < 64; i++) {
            Check.due("slope " + i + " of 1", x.slope(i), 0);
        }
        x.gradient(x.expand(1, 0, 3), 0);
        for (int i = 0; i < 64; i++) {
            Check.due("slope " + i + " of 64 again", x.slope(i), 0);
        }
        x.gradient(x.expand(1, 0, 3), 1);
        Check.slopes("of 1 again", x, 3);
    }

    /** Promise 16: "as it was found then": whatever is set, made or dropped later. */
    private static void slopeAsItWasFoundThen() {
        LazyTensorTape x = new LazyTensorTape();
        Check.counted(x, 3);
        int square = x.combine(2, 0, 0);
        x.gradient(square, 0);
        x.put(0, 0, 50);
        Check.slopes("after put", x, 2, 4, 6);
        x.at(square, 0);
        Check.slopes("after at", x, 2, 4, 6);
        x.assign(0, square);
        Check.slopes("after assign", x, 2, 4, 6);
        x.combine(2, square, square);
        Check.slopes("after combine", x, 2, 4, 6);
        x.drop(2);
        x.drop(square);
        x.drop(0);
        Check.slopes("after all is gone", x, 2, 4, 6);
        Check.counted(x, 4, 4, 4);
        Check.slopes("after a new leaf", x, 2, 4, 6);
    }

    /** Promise 16: "the latest accepted gradient" is not one that was refused. */
    private static void slopeAfterRefusedGradients() {
        LazyTensorTape x = Scene.make();
        Check.due("by a view", x.gradient(Scene.LEAF, Scene.TURNED), false);
        Check.slopes("after it", x, 10, 14, 18, 10, 14, 18);
        Check.due("of no handle", x.gradient(Scene.FREE, Scene.LEAF), false);
        Check.slopes("after it", x, 10, 14, 18, 10, 14, 18);
        Check.due("by no handle", x.gradient(Scene.LEAF, 24), false);
        Check.slopes("after it", x, 10, 14, 18, 10, 14, 18);
    }
}
