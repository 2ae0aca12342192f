import java.util.Arrays;

/** The edges of promises 11 (put), 12 (assign), 13 (shape) and 14 (at). */
public final class ElementEdgeTest {
    private static final int[] FAR = {-2, 64, 65, 2048, 1 << 30, Integer.MAX_VALUE, Integer.MIN_VALUE};

    public static void main(String[] args) {
        putOnNoHandle();
        putOnLeavesAndTheirViews();
        putOnNothingElse();
        putIsBelowTheNumberOfElements();
        putOfTheLeastAndTheGreatest();
        putSetsTheElementThatIsShownThere();
        assignToNoLeaf();
        assignToALeafWhereAViewWas();
        assignFromNoHandle();
        assignOfOtherShapes();
        assignOfTheLeastAndTheGreatest();
        assignOfWhatIsShownNow();
        shapeOfNoHandle();
        shapeIsZeroBeyondTheRank();
        atOfNoHandle();
        atIsBelowTheNumberOfElements();
        atOfTheGreatest();
        Check.end();
    }

    private static int size(LazyTensorTape x, int h) {
        return Check.size(x.shape(h));
    }

    /** Promise 11: "False, changing nothing, if h is no handle" */
    private static void putOnNoHandle() {
        for (int h : Scene.NO_HANDLES) {
            Twins.refuseToSet("put on " + h, Scene::set, x -> x.put(h, 0, 99));
        }
    }

    /** Promise 11: "tensor h, which must be a leaf or a view that shows elements of a leaf" */
    private static void putOnLeavesAndTheirViews() {
        for (int h : Scene.LEAVES) {
            LazyTensorTape x = Scene.make();
            Check.due("put on leaf " + h, x.put(h, 0, 99), true);
            Check.due("element of leaf " + h, x.at(h, 0), 99);
        }
        for (int h : Scene.VIEWS_OF_LEAVES) {
            LazyTensorTape x = Scene.make();
            Check.due("put on view " + h, x.put(h, 1, 99), true);
            Check.due("element of view " + h, x.at(h, 1), 99);
        }
        LazyTensorTape x = Scene.make();
        x.drop(Scene.DEEP);
        Check.due("put on a view whose leaf has no handle", x.put(Scene.SLICED, 1, 99), true);
        Check.shows("the view", x, Scene.SLICED, Check.packed(2, 2, 1), 2, 99, 6, 8);
    }

    /** Promise 11: "False, changing nothing, if h is .. not such a tensor": a result, or a view of a result. */
    private static void putOnNothingElse() {
        for (int h : Scene.RESULTS) {
            Twins.refuseToSet("put on result " + h, Scene::set, x -> x.put(h, 0, 99));
        }
        for (int h : Scene.VIEWS_OF_RESULTS) {
            Twins.refuseToSet("put on view of a result " + h, Scene::set, x -> x.put(h, 0, 99));
        }
        putOnResult("a combine", x -> x.combine(0, 0, 0));
        putOnResult("a fold", x -> x.fold(0, 0));
        putOnResult("a multiply", x -> x.multiply(0, 0));
        putOnResult("a reshape", x -> x.reshape(0, Check.packed(2, 2)));
        putOnResult("a transpose of a reshape", x -> x.transpose(x.reshape(0, Check.packed(2, 2)), 0, 1));
        putOnResult("a slice of a fold", x -> x.slice(x.fold(0, 0), 0, 0, Check.code(1, 0)));
        putOnResult("an expand of a slice of a combine",
            x -> x.expand(x.slice(x.combine(2, 0, 0), 0, 0, Check.code(1, 0)), 0, 1));
    }

    private static void putOnResult(String what, Twins.MakingCall result) {
        Twins.Scene scene = x -> {
            Check.counted(x, 2, 2);
            result.on(x);
        };
        LazyTensorTape x = new LazyTensorTape();
        Check.counted(x, 2, 2);
        int h = result.on(x);
        Twins.refuseToSet("put on " + what, scene, y -> y.put(h, 0, 99));
    }

    /** Promise 11: "False, changing nothing, if .. i is not below the number of its elements", or is negative. */
    private static void putIsBelowTheNumberOfElements() {
        for (int h : Scene.LEAVES) {
            putBounds(h);
        }
        for (int h : Scene.VIEWS_OF_LEAVES) {
            putBounds(h);
        }
        LazyTensorTape x = new LazyTensorTape();
        Check.counted(x, 2);
        x.expand(0, 0, 3);
        Check.due("the last of more elements than the leaf has", x.put(1, 5, 9), true);
        Check.due("one beyond them", x.put(1, 6, 8), false);
        Check.shows("the leaf", x, 0, Check.packed(2), 1, 9);
    }

    private static void putBounds(int h) {
        LazyTensorTape x = Scene.make();
        int size = size(x, h);
        Check.due("put on the first of " + h, x.put(h, 0, 71), true);
        Check.due("put on the last of " + h, x.put(h, size - 1, 72), true);
        Check.due("the last of " + h, x.at(h, size - 1), 72);
        Check.due("the first of " + h, x.at(h, 0), size == 1 ? 72 : 71);
        Twins.refuseToSet("put on element -1 of " + h, Scene::set, y -> y.put(h, -1, 99));
        Twins.refuseToSet("put beyond the last of " + h, Scene::set, y -> y.put(h, size, 99));
        for (int i : FAR) {
            Twins.refuseToSet("put on element " + i + " of " + h, Scene::set, y -> y.put(h, i, 99));
        }
    }

    /** Promise 11: v is any int. */
    private static void putOfTheLeastAndTheGreatest() {
        LazyTensorTape x = new LazyTensorTape();
        x.leaf(3, 4, 4, 4);
        int[] values = {Integer.MIN_VALUE, Integer.MIN_VALUE + 1, -1, 0, 1, Integer.MAX_VALUE - 1, Integer.MAX_VALUE};
        for (int v : values) {
            Check.due("put of " + v, x.put(0, 63, v), true);
            Check.due("element after it", x.at(0, 63), v);
            Check.due("the element before it", x.at(0, 62), 0);
        }
    }

    /** Promise 11: "the leaf's element that is shown there becomes v", and no other. */
    private static void putSetsTheElementThatIsShownThere() {
        for (int i = 0; i < 6; i++) {
            LazyTensorTape x = Scene.make();
            x.put(Scene.TURNED, i, 99);
            int place = i % 2 * 3 + i / 2;
            for (int n = 0; n < 6; n++) {
                Check.due("element " + n + " after put on " + i, x.at(Scene.LEAF, n), n == place ? 99 : n + 1);
            }
        }
    }

    private static void assignRefusal(int h, int k) {
        Twins.refuseToSet("assign(" + h + ", " + k + ")", Scene::set, x -> x.assign(h, k));
    }

    /** Promise 12: "leaf h (itself, not a view)": "false, changing nothing, if h is no leaf" */
    private static void assignToNoLeaf() {
        for (int h : Scene.NO_HANDLES) {
            assignRefusal(h, Scene.LEAF);
            assignRefusal(h, h);
        }
        assignRefusal(Scene.TURNED, Scene.RESHAPED);
        assignRefusal(Scene.RESHAPED, Scene.TURNED);
        for (int h : Scene.ALL) {
            boolean leaf = h == Scene.LEAF || h == Scene.SCALAR || h == Scene.DEEP || h == Scene.ROW;
            if (leaf) {
                Check.due("assign of " + h + " to itself", Scene.make().assign(h, h), true);
            } else {
                assignRefusal(h, h);
            }
        }
    }

    /** Promise 12: "h is no leaf" is said of what its handle is now, not of what it was before. */
    private static void assignToALeafWhereAViewWas() {
        LazyTensorTape x = Scene.make();
        x.drop(Scene.TURNED);
        Check.due("a leaf under the handle of a view", x.leaf(0, 0, 0, 0), Scene.TURNED);
        Check.due("assign to it", x.assign(Scene.TURNED, Scene.SCALAR), true);
        Check.shows("what it shows", x, Scene.TURNED, 0, 7);
    }

    /** Promise 12: "false, changing nothing, if .. k no handle" */
    private static void assignFromNoHandle() {
        for (int k : Scene.NO_HANDLES) {
            for (int h : Scene.LEAVES) {
                assignRefusal(h, k);
            }
        }
    }

    /** Promise 12: "false, changing nothing, if .. the shapes differ": in the rank, in a dimension, in their order. */
    private static void assignOfOtherShapes() {
        assignRefusal(Scene.LEAF, Scene.TURNED);
        assignRefusal(Scene.LEAF, Scene.RESHAPED);
        assignRefusal(Scene.LEAF, Scene.SCALAR);
        assignRefusal(Scene.SCALAR, Scene.LEAF);
        assignRefusal(Scene.DEEP, Scene.SLICED);
        assignRefusal(Scene.ROW, Scene.SUMS);
        int[][] ofFour = {{4}, {1, 4}, {4, 1}, {2, 2}, {1, 1, 4}, {1, 4, 1}, {4, 1, 1}, {2, 2, 1}, {2, 1, 2},
            {1, 2, 2}};
        for (int[] one : ofFour) {
            for (int[] other : ofFour) {
                assigned(one, other);
            }
        }
        assigned(new int[] {}, new int[] {1});
        assigned(new int[] {1}, new int[] {});
        assigned(new int[] {2, 3}, new int[] {2, 4});
        assigned(new int[] {2, 3}, new int[] {3});
    }

    private static void assigned(int[] one, int[] other) {
        Twins.Scene scene = x -> {
            Check.counted(x, one);
            Check.counted(x, other);
            x.put(1, 0, 55);
        };
        if (Arrays.equals(one, other)) {
            LazyTensorTape x = new LazyTensorTape();
            scene.set(x);
            Check.due("assign of equal shapes", x.assign(0, 1), true);
            Check.due("element 0", x.at(0, 0), 55);
        } else {
            String what = "assign of " + Arrays.toString(other) + " to " + Arrays.toString(one);
            Twins.refuseToSet(what, scene, x -> x.assign(0, 1));
        }
    }

    /** Promise 12: one element and 64, all of them set. */
    private static void assignOfTheLeastAndTheGreatest() {
        LazyTensorTape x = new LazyTensorTape();
        Check.counted(x, 4, 4, 4);
        x.leaf(3, 4, 4, 4);
        x.leaf(3, 4, 4, 4);
        Check.due("assign of 64", x.assign(1, 0), true);
        for (int i = 0; i < 64; i++) {
            Check.due("element " + i, x.at(1, i), i + 1);
            Check.due("element " + i + " of the next leaf", x.at(2, i), 0);
        }
        x.leaf(0, 0, 0, 0);
        x.leaf(0, 0, 0, 0);
        x.put(3, 0, Integer.MIN_VALUE);
        Check.due("assign of 1", x.assign(4, 3), true);
        Check.shows("its element", x, 4, 0, Integer.MIN_VALUE);
    }

    /** Promise 12: "to what tensor k shows now": before anything is set, and not what it shows later. */
    private static void assignOfWhatIsShownNow() {
        LazyTensorTape x = new LazyTensorTape();
        Check.counted(x, 4);
        int back = x.slice(0, 0, 3, Check.code(4, -1));
        int sums = x.combine(0, 0, back);
        Check.due("assign of its own view", x.assign(0, back), true);
        Check.shows("turned round", x, 0, Check.packed(4), 4, 3, 2, 1);
        x.put(0, 0, 10);
        Check.due("assign of its own result", x.assign(0, sums), true);
        Check.shows("its sums", x, 0, Check.packed(4), 11, 5, 5, 11);
        int other = x.leaf(1, 4, 0, 0);
        Check.due("assign of a result", x.assign(other, sums), true);
        x.put(0, 0, 0);
        Check.shows("not changed later", x, other, Check.packed(4), 22, 10, 10, 22);
        Check.shows("the result is", x, sums, Check.packed(4), 11, 10, 10, 11);
        int same = x.slice(0, 0, 3, Check.code(4, 0));
        Check.due("assign of one element of its own", x.assign(0, same), true);
        Check.shows("everywhere", x, 0, Check.packed(4), 11, 11, 11, 11);
    }

    /** Promise 13: "-1 if h is no handle" */
    private static void shapeOfNoHandle() {
        LazyTensorTape x = Scene.make();
        for (int h : Scene.NO_HANDLES) {
            Check.due("shape(" + h + ")", x.shape(h), -1);
            Twins.refuse("shape(" + h + ")", Scene::set, y -> y.shape(h), -1);
        }
        for (int h : Scene.ALL) {
            x.drop(h);
            Check.due("shape(" + h + ") after its drop", x.shape(h), -1);
        }
    }

    /** Promise 13: "rank + 8 d0 + 64 d1 + 512 d2 (0 beyond the rank)" */
    private static void shapeIsZeroBeyondTheRank() {
        LazyTensorTape x = Scene.make();
        Check.due("rank 0", x.shape(Scene.SCALAR), 0);
        Check.due("rank 1", x.shape(Scene.ROW), 1 + 8 * 3);
        Check.due("rank 2", x.shape(Scene.LEAF), 2 + 8 * 2 + 64 * 3);
        Check.due("rank 3", x.shape(Scene.SLICED), 3 + 8 * 2 + 64 * 2 + 512);
        Check.due("a transpose", x.shape(Scene.TURNED), 2 + 8 * 3 + 64 * 2);
        Check.due("a fold", x.shape(Scene.SUMS), 1 + 8 * 2);
        Check.due("an expand", x.shape(Scene.SPREAD), 2 + 8 * 2 + 64 * 2);
        Check.due("the greatest", x.shape(x.leaf(3, 4, 4, 4)), 3 + 8 * 4 + 64 * 4 + 512 * 4);
        Check.due("rank 1 where rank 3 was", droppedThen(x), 1 + 8);
    }

    private static int droppedThen(LazyTensorTape x) {
        x.drop(Scene.FREE);
        return x.shape(x.leaf(1, 1, 4, 4));
    }

    /** Promise 14: "0 if h is no handle" */
    private static void atOfNoHandle() {
        LazyTensorTape x = Scene.make();
        for (int h : Scene.NO_HANDLES) {
            Check.due("at(" + h + ", 0)", x.at(h, 0), 0);
            Check.due("at(" + h + ", 1)", x.at(h, 1), 0);
            Twins.refuse("at(" + h + ", 0)", Scene::set, y -> y.at(h, 0), 0);
        }
        for (int h : Scene.ALL) {
            x.drop(h);
            Check.due("at(" + h + ", 0) after its drop", x.at(h, 0), 0);
        }
    }

    /** Promise 14: "0 if .. i is not below the number of its elements", or is negative. */
    private static void atIsBelowTheNumberOfElements() {
        int[] lasts = {6, 7, 6, 109, 8, 8, 6, 3, 109};
        for (int n = 0; n < lasts.length; n++) {
            LazyTensorTape x = Scene.make();
            int h = Scene.ALL[n];
            int size = size(x, h);
            Check.due("the last of " + h, x.at(h, size - 1), lasts[n]);
            Check.due("beyond the last of " + h, x.at(h, size), 0);
            Check.due("before the first of " + h, x.at(h, -1), 0);
            for (int i : FAR) {
                Twins.refuse("element " + i + " of " + h, Scene::set, y -> y.at(h, i), 0);
            }
        }
    }

    /** Promise 14: the first and the last of 64 elements, of a leaf, of views and of results. */
    private static void atOfTheGreatest() {
        LazyTensorTape x = new LazyTensorTape();
        Check.counted(x, 4, 4, 4);
        int[] great = {0, x.transpose(0, 0, 2), x.slice(0, 1, 0, Check.code(4, 1)), x.reshape(0, 2339),
            x.combine(1, 0, x.leaf(0, 0, 0, 0))};
        for (int h : great) {
            Check.due("element 0 of " + h, x.at(h, 0), 1);
            Check.due("element 63 of " + h, x.at(h, 63), 64);
            Check.due("element 64 of " + h, x.at(h, 64), 0);
        }
    }
}
