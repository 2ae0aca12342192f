import java.util.Arrays;

/** The edges of promises 6 (reshape), 7 (combine), 8 (fold) and 9 (multiply). */
public final class ResultEdgeTest {
    private static final int MOST = Integer.MAX_VALUE;
    private static final int LEAST = Integer.MIN_VALUE;
    /** One tensor of each rank, and that rank. */
    private static final int[] BY_RANK = {Scene.SCALAR, Scene.ROW, Scene.LEAF, Scene.DEEP};

    public static void main(String[] args) {
        reshapeOfNoHandle();
        reshapeToTheLeastAndGreatestShape();
        reshapePackedIsZeroTo4095();
        reshapeRankIsAtMostThree();
        reshapeDimensionsAreOneToFour();
        reshapeDimensionsBeyondTheRankAreZero();
        reshapeKeepsTheNumberOfElements();
        combineOfNoHandle();
        combineOpsAreZeroToTwo();
        combineDimensionsAreEqualOrOne();
        combineDimensionsAreEqualOrMissing();
        combineComparesFromTheLast();
        combineShowsTheSameAlongOne();
        combineWrapsAround();
        foldOfNoHandle();
        foldAxisIsBelowTheRank();
        foldOfOneAndOfFour();
        foldWrapsAround();
        multiplyOfNoHandle();
        multiplyRanksAreTwo();
        multiplyInnerDimensionsAreEqual();
        multiplyOfTheLeastAndTheGreatest();
        multiplyWrapsAround();
        Check.end();
    }

    /** Promise 6: h must be a handle. */
    private static void reshapeOfNoHandle() {
        for (int h : Scene.NO_HANDLES) {
            Twins.refuseToMake("reshape of " + h, Scene::set, x -> x.reshape(h, 0));
            Twins.refuseToMake("reshape of " + h, Scene::set, x -> x.reshape(h, Check.packed(2, 3)));
        }
    }

    /** Promise 6: "packed = rank + 8 d0 + 64 d1 + 512 d2", the least 0 and the greatest 2339. */
    private static void reshapeToTheLeastAndGreatestShape() {
        LazyTensorTape x = new LazyTensorTape();
        int great = Check.counted(x, 4, 4, 4);
        int one = Check.counted(x, 1, 1, 1);
        int same = x.reshape(great, 3 + 8 * 4 + 64 * 4 + 512 * 4);
        Check.due("shape of the greatest", x.shape(same), 2339);
        for (int i = 0; i < 64; i++) {
            Check.due("element " + i, x.at(same, i), i + 1);
        }
        Check.shows("rank 0", x, x.reshape(one, 0), 0, 1);
        Check.shows("rank 1", x, x.reshape(one, 1 + 8), 1 + 8, 1);
        Check.shows("rank 2", x, x.reshape(one, 2 + 8 + 64), 2 + 8 + 64, 1);
        Check.shows("rank 3", x, x.reshape(one, 3 + 8 + 64 + 512), 3 + 8 + 64 + 512, 1);
    }

    private static void reshapeRefusal(int h, int packed) {
        Twins.refuseToMake("reshape of " + h + " to " + packed, Scene::set, x -> x.reshape(h, packed));
    }

    /** Promise 6: "Refuses if packed is negative or above 4095": also where its low bits would be a shape. */
    private static void reshapePackedIsZeroTo4095() {
        int[] outside = {4096, -4096, 1 << 15, 1 << 30, MOST - 4095, LEAST};
        for (int packed : outside) {
            reshapeRefusal(Scene.SCALAR, packed);
            reshapeRefusal(Scene.LEAF, packed + Check.packed(2, 3));
            reshapeRefusal(Scene.DEEP, packed + Check.packed(2, 2, 2));
        }
        reshapeRefusal(Scene.SCALAR, -1);
        reshapeRefusal(Scene.SCALAR, MOST);
        reshapeRefusal(Scene.SCALAR, 4095);
        LazyTensorTape x = Scene.make();
        Check.due("packed 0", x.reshape(Scene.SCALAR, 0), Scene.FREE);
    }

    /** Promise 6: "Refuses if .. the rank is above 3" */
    private static void reshapeRankIsAtMostThree() {
        for (int rank = 4; rank < 8; rank++) {
            reshapeRefusal(Scene.SCALAR, rank);
            reshapeRefusal(Scene.SCALAR, rank + 8 + 64 + 512);
            reshapeRefusal(Scene.ROW, rank + 8 * 3);
            reshapeRefusal(Scene.DEEP, rank + 8 * 2 + 64 * 2 + 512 * 2);
        }
        LazyTensorTape x = Scene.make();
        Check.shows("rank 3", x, x.reshape(Scene.ROW, Check.packed(1, 3, 1)), Check.packed(1, 3, 1), 1, 2, 3);
    }

    /** Promise 6: "Refuses if .. a dimension is outside 1..4": of each rank each dimension. */
    private static void reshapeDimensionsAreOneToFour() {
        for (int rank = 1; rank <= 3; rank++) {
            for (int axis = 0; axis < rank; axis++) {
                for (int d = 0; d < 8; d++) {
                    reshapeToDimension(rank, axis, d);
                }
            }
        }
        int[] sixes = {Check.packed(6), Check.packed(1, 6), Check.packed(6, 1), Check.packed(1, 1, 6),
            Check.packed(1, 6, 1), Check.packed(6, 1, 1)};
        for (int packed : sixes) {
            reshapeRefusal(Scene.LEAF, packed);
        }
    }

    /** Of a tensor with d elements, as far as there is one: so the number of elements is not what refuses it. */
    private static void reshapeToDimension(int rank, int axis, int d) {
        int ones = Check.packed(1, 1, 1) & (8 << 3 * rank) - 8;
        int packed = rank + ones + (d - 1) * (8 << 3 * axis);
        Twins.Scene scene = x -> {
            if (d == 6) {
                Check.counted(x, 2, 3);
            } else {
                Check.counted(x, d < 1 || d > 4 ? 1 : d);
            }
        };
        if (d >= 1 && d <= 4) {
            LazyTensorTape x = new LazyTensorTape();
            scene.set(x);
            Check.due("reshape to dimension " + d, x.reshape(0, packed), 1);
            Check.due("its shape", x.shape(1), packed);
            Check.due("its last element", x.at(1, d - 1), d);
        } else {
            Twins.refuseToMake("reshape to " + packed + " with dimension " + d, scene, x -> x.reshape(0, packed));
        }
    }

    /** Promise 6: "(those beyond the rank must be 0)" */
    private static void reshapeDimensionsBeyondTheRankAreZero() {
        for (int d = 1; d < 8; d++) {
            reshapeRefusal(Scene.SCALAR, 8 * d);
            reshapeRefusal(Scene.SCALAR, 64 * d);
            reshapeRefusal(Scene.SCALAR, 512 * d);
            reshapeRefusal(Scene.ROW, Check.packed(3) + 64 * d);
            reshapeRefusal(Scene.ROW, Check.packed(3) + 512 * d);
            reshapeRefusal(Scene.LEAF, Check.packed(3, 2) + 512 * d);
        }
    }

    /** Promise 6: "Refuses if .. the number of elements differs": one more, one less, of a view its own number. */
    private static void reshapeKeepsTheNumberOfElements() {
        reshapeRefusal(Scene.ROW, Check.packed(2));
        reshapeRefusal(Scene.ROW, Check.packed(4));
        reshapeRefusal(Scene.ROW, 0);
        reshapeRefusal(Scene.SCALAR, Check.packed(2));
        reshapeRefusal(Scene.LEAF, Check.packed(2, 4));
        reshapeRefusal(Scene.LEAF, Check.packed(3, 3));
        reshapeRefusal(Scene.LEAF, Check.packed(4));
        reshapeRefusal(Scene.SLICED, Check.packed(2, 2, 2));
        reshapeRefusal(Scene.SPREAD, Check.packed(2));
        LazyTensorTape x = Scene.make();
        Check.shows("of a slice", x, x.reshape(Scene.SLICED, Check.packed(4)), Check.packed(4), 2, 4, 6, 8);
        Check.shows("of an expand", x, x.reshape(Scene.SPREAD, Check.packed(4)), Check.packed(4), 46, 109, 46, 109);
    }

    /** Promise 7: h and k must be handles. */
    private static void combineOfNoHandle() {
        for (int none : Scene.NO_HANDLES) {
            for (int op = 0; op < 3; op++) {
                int o = op;
                Twins.refuseToMake("combine of " + none, Scene::set, x -> x.combine(o, none, Scene.ROW));
                Twins.refuseToMake("combine with " + none, Scene::set, x -> x.combine(o, Scene.ROW, none));
            }
            Twins.refuseToMake("combine of twice " + none, Scene::set, x -> x.combine(0, none, none));
        }
    }

    /** Promise 7: "h + k (op 0), h - k (1), h * k (2)", and no other op. */
    private static void combineOpsAreZeroToTwo() {
        LazyTensorTape x = Scene.make();
        Check.shows("op 0", x, x.combine(0, Scene.SCALAR, Scene.ROW), Check.packed(3), 8, 9, 10);
        Check.shows("op 1", x, x.combine(1, Scene.SCALAR, Scene.ROW), Check.packed(3), 6, 5, 4);
        Check.shows("op 2", x, x.combine(2, Scene.SCALAR, Scene.ROW), Check.packed(3), 7, 14, 21);
        int[] wrong = {-1, 3, 4, 5, 8, -2, 1 << 30, MOST, LEAST};
        for (int op : wrong) {
            Twins.refuseToMake("combine with op " + op, Scene::set, y -> y.combine(op, Scene.ROW, Scene.ROW));
        }
    }

    /** Promise 7: "they must be equal, or one of them 1 ..": at each axis each pair of dimensions. */
    private static void combineDimensionsAreEqualOrOne() {
        for (int axis = 0; axis < 3; axis++) {
            for (int one = 1; one <= 4; one++) {
                for (int other = 1; other <= 4; other++) {
                    combined(with(axis, one), with(axis, other), one == other || one == 1 || other == 1,
                        with(axis, Math.max(one, other)));
                }
            }
        }
    }

    private static int[] with(int axis, int d) {
        int[] dimensions = {2, 2, 2};
        dimensions[axis] = d;
        return dimensions;
    }

    private static void combined(int[] one, int[] other, boolean fit, int... want) {
        Twins.Scene scene = x -> {
            Check.counted(x, one);
            Check.counted(x, other);
        };
        String what = "combine of " + Arrays.toString(one) + " and " + Arrays.toString(other);
        if (fit) {
            LazyTensorTape x = new LazyTensorTape();
            scene.set(x);
            Check.due(what, x.combine(0, 0, 1), 2);
            Check.due(what + ", shape", x.shape(2), Check.packed(want));
            int last = Check.size(Check.packed(one)) + Check.size(Check.packed(other));
            Check.due(what + ", last element", x.at(2, Check.size(Check.packed(want)) - 1), last);
        } else {
            Twins.refuseToMake(what, scene, x -> x.combine(0, 0, 1));
        }
    }

    /** Promise 7: ".. or one of them .. missing": each rank with each, none, one, two or three missing. */
    private static void combineDimensionsAreEqualOrMissing() {
        int[][] tails = {{}, {4}, {3, 4}, {2, 3, 4}};
        for (int[] one : tails) {
            for (int[] other : tails) {
                combined(one, other, true, one.length > other.length ? one : other);
            }
        }
        combined(new int[] {}, new int[] {}, true);
        combined(new int[] {1}, new int[] {}, true, 1);
        combined(new int[] {1, 1, 1}, new int[] {}, true, 1, 1, 1);
        combined(new int[] {1, 1, 1}, new int[] {4}, true, 1, 1, 4);
        combined(new int[] {4}, new int[] {3, 1, 1}, true, 3, 1, 4);
    }

    /** Promise 7: "The dimensions are compared from the last to the first" */
    private static void combineComparesFromTheLast() {
        combined(new int[] {2, 3}, new int[] {3}, true, 2, 3);
        combined(new int[] {2, 3}, new int[] {2}, false);
        combined(new int[] {3}, new int[] {3, 2}, false);
        combined(new int[] {2, 3, 4}, new int[] {3, 4}, true, 2, 3, 4);
        combined(new int[] {2, 3, 4}, new int[] {2, 3}, false);
        combined(new int[] {3, 4}, new int[] {3, 4, 2}, false);
        combined(new int[] {2, 3, 4}, new int[] {2}, false);
        combined(new int[] {2, 3, 4}, new int[] {3}, false);
        combined(new int[] {2, 3, 4}, new int[] {2, 4}, false);
        combined(new int[] {2, 3, 4}, new int[] {2, 1}, false);
        combined(new int[] {2, 3, 4}, new int[] {3, 1}, true, 2, 3, 4);
        combined(new int[] {2, 3, 4}, new int[] {1, 2}, false);
        combined(new int[] {3, 1}, new int[] {2, 1, 4}, true, 2, 3, 4);
    }

    /** Promise 7: "the tensor with 1 (or without) shows the same element along it" */
    private static void combineShowsTheSameAlongOne() {
        LazyTensorTape x = new LazyTensorTape();
        int row = Check.counted(x, 3);
        int column = Check.counted(x, 2, 1);
        int planes = Check.counted(x, 2, 1, 1);
        int zero = x.leaf(0, 0, 0, 0);
        Check.shows("without", x, x.combine(1, row, x.leaf(2, 2, 1, 0)), Check.packed(2, 3), 1, 2, 3, 1, 2, 3);
        Check.shows("with 1", x, x.combine(1, column, x.leaf(1, 3, 0, 0)), Check.packed(2, 3), 1, 1, 1, 2, 2, 2);
        Check.shows("both", x, x.combine(1, row, column), Check.packed(2, 3), 0, 1, 2, -1, 0, 1);
        Check.shows("three", x, x.combine(1, planes, column), Check.packed(2, 2, 1), 0, -1, 1, 0);
        Check.shows("rank 0 first", x, x.combine(1, zero, row), Check.packed(3), -1, -2, -3);
        Check.shows("rank 0 second", x, x.combine(1, row, zero), Check.packed(3), 1, 2, 3);
        Check.shows("1 and 1", x, x.combine(2, planes, planes), Check.packed(2, 1, 1), 1, 4);
    }

    private static int combinedPair(int op, int first, int second) {
        LazyTensorTape x = new LazyTensorTape();
        x.leaf(0, 0, 0, 0);
        x.leaf(0, 0, 0, 0);
        x.put(0, 0, first);
        x.put(1, 0, second);
        return x.at(x.combine(op, 0, 1), 0);
    }

    /** "wrapping ints": sums, differences and products at both ends. */
    private static void combineWrapsAround() {
        Check.due("greatest sum", combinedPair(0, MOST, 0), MOST);
        Check.due("sum above", combinedPair(0, MOST, 1), LEAST);
        Check.due("sum of the greatest", combinedPair(0, MOST, MOST), -2);
        Check.due("sum below", combinedPair(0, LEAST, -1), MOST);
        Check.due("sum of the least", combinedPair(0, LEAST, LEAST), 0);
        Check.due("least difference", combinedPair(1, -1, MOST), LEAST);
        Check.due("difference below", combinedPair(1, -2, MOST), MOST);
        Check.due("difference above", combinedPair(1, 0, LEAST), LEAST);
        Check.due("difference of least and greatest", combinedPair(1, LEAST, MOST), 1);
        Check.due("difference of greatest and least", combinedPair(1, MOST, LEAST), -1);
        Check.due("product that fits", combinedPair(2, 46340, 46340), 2147395600);
        Check.due("product above", combinedPair(2, 46341, 46341), -2147479015);
        Check.due("product with -1", combinedPair(2, LEAST, -1), LEAST);
        Check.due("product of the greatest", combinedPair(2, MOST, MOST), 1);
        Check.due("product of the least", combinedPair(2, LEAST, LEAST), 0);
        Check.due("product of 65536", combinedPair(2, 65536, 65536), 0);
        Check.due("product of great ones", combinedPair(2, 123456789, 987654321), -67153019);
    }

    /** Promise 8: h must be a handle. */
    private static void foldOfNoHandle() {
        for (int h : Scene.NO_HANDLES) {
            Twins.refuseToMake("fold of " + h, Scene::set, x -> x.fold(h, 0));
        }
    }

    /** Promise 8: "Refuses if axis is not below the rank." */
    private static void foldAxisIsBelowTheRank() {
        int[] far = {-1, -2, 3, 4, 24, 1 << 30, MOST, LEAST};
        for (int rank = 0; rank <= 3; rank++) {
            int h = BY_RANK[rank];
            for (int axis = 0; axis < rank; axis++) {
                LazyTensorTape x = Scene.make();
                Check.due("fold along " + axis, x.fold(h, axis), Scene.FREE);
                Check.due("its rank", x.shape(Scene.FREE) & 7, rank - 1);
            }
            int beyond = rank;
            Twins.refuseToMake("fold of " + h + " along its rank", Scene::set, x -> x.fold(h, beyond));
            for (int axis : far) {
                Twins.refuseToMake("fold of " + h + " along " + axis, Scene::set, x -> x.fold(h, axis));
            }
        }
    }

    /** Promise 8: "The sums along an axis, which vanishes": of the least and of the greatest dimension. */
    private static void foldOfOneAndOfFour() {
        LazyTensorTape x = new LazyTensorTape();
        int thin = Check.counted(x, 1, 2, 1);
        Check.shows("the first of one", x, x.fold(thin, 0), Check.packed(2, 1), 1, 2);
        Check.shows("the last of one", x, x.fold(thin, 2), Check.packed(1, 2), 1, 2);
        Check.shows("four", x, x.fold(Check.counted(x, 4), 0), 0, 10);
        int wide = Check.counted(x, 1, 4);
        Check.shows("one of 1 x 4", x, x.fold(wide, 0), Check.packed(4), 1, 2, 3, 4);
        Check.shows("four of 1 x 4", x, x.fold(wide, 1), Check.packed(1), 10);
        int great = Check.counted(x, 4, 4, 4);
        int first = x.fold(great, 0);
        int last = x.fold(great, 2);
        for (int i = 0; i < 16; i++) {
            Check.due("first of 4 x 4 x 4, " + i, x.at(first, i), 4 * (i + 1) + 6 * 16);
            Check.due("last of 4 x 4 x 4, " + i, x.at(last, i), 16 * i + 10);
        }
        Check.due("elements of each", x.at(first, 16) + x.at(last, 16), 0);
    }

    /** "wrapping ints": sums along an axis. */
    private static void foldWrapsAround() {
        LazyTensorTape x = new LazyTensorTape();
        x.leaf(2, 2, 2, 0);
        int sums = x.fold(0, 0);
        x.put(0, 0, MOST);
        x.put(0, 1, LEAST);
        Check.shows("one end", x, sums, Check.packed(2), MOST, LEAST);
        x.put(0, 2, 1);
        x.put(0, 3, -1);
        Check.shows("just beyond it", x, sums, Check.packed(2), LEAST, MOST);
        x.put(0, 2, MOST);
        x.put(0, 3, LEAST);
        Check.shows("far beyond it", x, sums, Check.packed(2), -2, 0);
    }

    /** Promise 9: h and k must be handles. */
    private static void multiplyOfNoHandle() {
        for (int none : Scene.NO_HANDLES) {
            Twins.refuseToMake("multiply of " + none, Scene::set, x -> x.multiply(none, Scene.LEAF));
            Twins.refuseToMake("multiply by " + none, Scene::set, x -> x.multiply(Scene.LEAF, none));
            Twins.refuseToMake("multiply of twice " + none, Scene::set, x -> x.multiply(none, none));
        }
    }

    /** Promise 9: "h of rank 2 .. k of rank 2" */
    private static void multiplyRanksAreTwo() {
        int[][] shapes = {{}, {2}, {2, 2}, {2, 2, 2}};
        for (int[] one : shapes) {
            for (int[] other : shapes) {
                multiplied(one, other, one.length == 2 && other.length == 2);
            }
        }
        multiplied(new int[] {1, 2, 2}, new int[] {2, 2}, false);
        multiplied(new int[] {2, 2}, new int[] {2, 2, 1}, false);
        multiplied(new int[] {1, 1}, new int[] {}, false);
        multiplied(new int[] {1}, new int[] {1, 1}, false);
    }

    private static void multiplied(int[] one, int[] other, boolean fit) {
        Twins.Scene scene = x -> {
            Check.counted(x, one);
            Check.counted(x, other);
        };
        String what = "multiply of " + Arrays.toString(one) + " by " + Arrays.toString(other);
        if (fit) {
            LazyTensorTape x = new LazyTensorTape();
            scene.set(x);
            Check.due(what, x.multiply(0, 1), 2);
            Check.due(what + ", shape", x.shape(2), Check.packed(one[0], other[1]));
        } else {
            Twins.refuseToMake(what, scene, x -> x.multiply(0, 1));
        }
    }

    /** Promise 9: "with dimensions p, q, .. with dimensions q, r": q is the same, and a 1 is not spread. */
    private static void multiplyInnerDimensionsAreEqual() {
        for (int q = 1; q <= 4; q++) {
            for (int other = 1; other <= 4; other++) {
                multiplied(new int[] {2, q}, new int[] {other, 3}, q == other);
                multiplied(new int[] {q, 2}, new int[] {2, other}, true);
            }
        }
        multiplied(new int[] {2, 3}, new int[] {2, 3}, false);
    }

    /** Promise 9: p, q and r are 1..4. */
    private static void multiplyOfTheLeastAndTheGreatest() {
        LazyTensorTape x = new LazyTensorTape();
        int one = Check.counted(x, 1, 1);
        x.put(one, 0, -3);
        Check.shows("1 x 1", x, x.multiply(one, one), Check.packed(1, 1), 9);
        int four = Check.counted(x, 4, 4);
        Check.shows("4 x 4", x, x.multiply(four, four), Check.packed(4, 4), 90, 100, 110, 120, 202, 228, 254, 280,
            314, 356, 398, 440, 426, 484, 542, 600);
        int row = Check.counted(x, 1, 4);
        int column = Check.counted(x, 4, 1);
        Check.shows("1 x 4 by 4 x 1", x, x.multiply(row, column), Check.packed(1, 1), 30);
        Check.shows("4 x 1 by 1 x 4", x, x.multiply(column, row), Check.packed(4, 4), 1, 2, 3, 4, 2, 4, 6, 8,
            3, 6, 9, 12, 4, 8, 12, 16);
    }

    /** "wrapping ints": the products of a matrix product, and their sum. */
    private static void multiplyWrapsAround() {
        LazyTensorTape x = new LazyTensorTape();
        int a = x.leaf(2, 1, 2, 0);
        int b = x.leaf(2, 2, 1, 0);
        int p = x.multiply(a, b);
        x.put(a, 0, 46341);
        x.put(b, 0, 46341);
        Check.due("a product above", x.at(p, 0), -2147479015);
        x.put(a, 0, MOST);
        x.put(b, 0, 1);
        Check.due("the greatest sum", x.at(p, 0), MOST);
        x.put(a, 1, 1);
        x.put(b, 1, 1);
        Check.due("a sum above", x.at(p, 0), LEAST);
        x.put(a, 0, LEAST);
        x.put(a, 1, -1);
        Check.due("a sum below", x.at(p, 0), MOST);
        x.put(b, 0, -1);
        Check.due("a product above and a sum below", x.at(p, 0), MOST);
    }
}
