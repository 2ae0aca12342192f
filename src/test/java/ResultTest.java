/** Promises 6 (reshape), 7 (combine), 8 (fold) and 9 (multiply), and that results show the present elements. */
public final class ResultTest {
    private static final int[] NO_HANDLES = {-1, 11, 23, 24, Integer.MAX_VALUE, Integer.MIN_VALUE};

    public static void main(String[] args) {
        reshapes();
        reshapeRefusals();
        combines();
        combinesWrapAround();
        combineShapes();
        combineSpreads();
        combineRefusals();
        folds();
        foldRefusals();
        multiplies();
        multiplyRefusals();
        resultsArePresent();
        resultsOutliveHandles();
        longChain();
        Check.end();
    }

    private static void reshapes() {
        LazyTensorTape x = new LazyTensorTape();
        int a = Check.counted(x, 2, 3);
        int t = x.transpose(a, 0, 1);
        int r = x.reshape(t, Check.packed(2, 3));
        Check.shows("of a transpose", x, r, Check.packed(2, 3), 1, 4, 2, 5, 3, 6);
        Check.shows("rank 3", x, x.reshape(a, Check.packed(3, 1, 2)), Check.packed(3, 1, 2), 1, 2, 3, 4, 5, 6);
        Check.due("live", x.live(), 18);
        x.put(a, 1, 20);
        Check.shows("present elements", x, r, Check.packed(2, 3), 1, 4, 20, 5, 3, 6);
        int one = x.slice(a, 1, 2, 8);
        int last = x.slice(one, 0, 1, 8);
        Check.shows("to rank 0", x, x.reshape(last, 0), 0, 6);
        Check.shows("of an expand", x, x.reshape(x.expand(last, 0, 4), Check.packed(2, 2)), Check.packed(2, 2), 6, 6, 6, 6);
        int scalar = x.reshape(last, 0);
        Check.shows("from rank 0", x, x.reshape(scalar, Check.packed(1, 1, 1)), Check.packed(1, 1, 1), 6);
    }

    private static void reshapeRefusals() {
        LazyTensorTape x = new LazyTensorTape();
        int a = Check.counted(x, 4);
        int b = Check.counted(x, 2, 3);
        int scalar = x.leaf(0, 0, 0, 0);
        int good = Check.packed(2, 2);
        int[] wrong = {-1, Integer.MIN_VALUE, Integer.MAX_VALUE, 4096, good + 4096, good - 4096, 4095, good + 512,
            Check.packed(4) + 64, Check.packed(4, 0), Check.packed(0, 4), Check.packed(2, 3), Check.packed(2, 1),
            4 + 8 + 64 + 512, 7 + 32, 0, 8, Check.packed(1), Check.packed(2, 2, 2)};
        for (int packed : wrong) {
            Check.due("reshape to " + packed, x.reshape(a, packed), -1);
        }
        Check.due("a dimension of 6", x.reshape(b, Check.packed(6)), -1);
        Check.due("a dimension of 6 of two", x.reshape(b, Check.packed(1, 6)), -1);
        Check.due("rank 0 with a dimension", x.reshape(scalar, 8), -1);
        for (int h : NO_HANDLES) {
            Check.due("reshape(" + h + ")", x.reshape(h, 0), -1);
        }
        Check.due("live after refusals", x.live(), 11);
        Check.due("handle after refusals", x.reshape(a, good), 3);
    }

    private static void combines() {
        LazyTensorTape x = new LazyTensorTape();
        int a = Check.counted(x, 2, 2);
        int b = x.leaf(2, 2, 2, 0);
        for (int i = 0; i < 4; i++) {
            x.put(b, i, 10 - 3 * i);
        }
        Check.shows("sum", x, x.combine(0, a, b), Check.packed(2, 2), 11, 9, 7, 5);
        Check.shows("difference", x, x.combine(1, a, b), Check.packed(2, 2), -9, -5, -1, 3);
        Check.shows("the other difference", x, x.combine(1, b, a), Check.packed(2, 2), 9, 5, 1, -3);
        Check.shows("product", x, x.combine(2, a, b), Check.packed(2, 2), 10, 14, 12, 4);
        Check.shows("with itself", x, x.combine(1, a, a), Check.packed(2, 2), 0, 0, 0, 0);
    }

    private static void combinesWrapAround() {
        LazyTensorTape x = new LazyTensorTape();
        int a = x.leaf(0, 0, 0, 0);
        int b = x.leaf(0, 0, 0, 0);
        x.put(a, 0, Integer.MIN_VALUE);
        x.put(b, 0, -1);
        Check.shows("sum", x, x.combine(0, a, b), 0, Integer.MAX_VALUE);
        Check.shows("difference", x, x.combine(1, b, a), 0, Integer.MAX_VALUE);
        Check.shows("product", x, x.combine(2, a, b), 0, Integer.MIN_VALUE);
        Check.shows("square", x, x.combine(2, a, a), 0, 0);
        int e = x.expand(a, 0, 2);
        Check.shows("fold", x, x.fold(e, 0), 0, 0);
    }

    private static void combineShapes() {
        due(Check.packed(3), new int[] {}, new int[] {3});
        due(Check.packed(3), new int[] {3}, new int[] {1});
        due(Check.packed(2, 3), new int[] {3}, new int[] {2, 3});
        due(Check.packed(2, 3), new int[] {2, 1}, new int[] {3});
        due(Check.packed(2, 3), new int[] {2, 1}, new int[] {1, 3});
        due(Check.packed(4, 2, 3), new int[] {4, 1, 3}, new int[] {2, 1});
        due(Check.packed(4, 2, 3), new int[] {4, 2, 1}, new int[] {3});
        due(Check.packed(1, 1, 1), new int[] {1, 1, 1}, new int[] {});
        due(0, new int[] {}, new int[] {});
        due(-1, new int[] {2}, new int[] {3});
        due(-1, new int[] {2, 3}, new int[] {2});
        due(-1, new int[] {4, 2}, new int[] {2, 2});
        due(-1, new int[] {2, 1, 2}, new int[] {3, 1, 1});
    }

    private static void due(int shape, int[] one, int[] other) {
        LazyTensorTape x = new LazyTensorTape();
        int h = Check.counted(x, one);
        int k = Check.counted(x, other);
        int live = x.live();
        Check.due("shape combined", x.shape(x.combine(0, h, k)), shape);
        Check.due("shape combined the other way", x.shape(x.combine(0, k, h)), shape);
        if (shape < 0) {
            Check.due("live after refusals", x.live(), live);
        }
    }

    private static void combineSpreads() {
        LazyTensorTape x = new LazyTensorTape();
        int row = Check.counted(x, 3);
        int column = Check.counted(x, 2, 1);
        Check.shows("row and column", x, x.combine(1, row, column), Check.packed(2, 3), 0, 1, 2, -1, 0, 1);
        Check.shows("column and row", x, x.combine(2, column, row), Check.packed(2, 3), 1, 2, 3, 2, 4, 6);
        int scalar = x.leaf(0, 0, 0, 0);
        x.put(scalar, 0, 10);
        Check.shows("row and scalar", x, x.combine(2, scalar, row), Check.packed(3), 10, 20, 30);
        int deep = Check.counted(x, 2, 1, 2);
        Check.shows("deep and column", x, x.combine(0, deep, column), Check.packed(2, 2, 2), 2, 3, 3, 4, 4, 5, 5, 6);
        int back = x.slice(row, 0, 2, 3 * 8 + 4 - 1);
        Check.due("views that do not fit", x.combine(0, back, x.transpose(column, 0, 1)), -1);
        Check.shows("a view", x, x.combine(1, back, column), Check.packed(2, 3), 2, 1, 0, 1, 0, -1);
    }

    private static void combineRefusals() {
        LazyTensorTape x = new LazyTensorTape();
        int a = Check.counted(x, 2);
        int[] noOp = {-1, 3, 4, 5, Integer.MAX_VALUE, Integer.MIN_VALUE};
        for (int op : noOp) {
            Check.due("combine(" + op + ")", x.combine(op, a, a), -1);
        }
        for (int h : NO_HANDLES) {
            Check.due("combine with " + h + " first", x.combine(0, h, a), -1);
            Check.due("combine with " + h + " second", x.combine(0, a, h), -1);
        }
        Check.due("live after refusals", x.live(), 2);
        Check.due("handle after refusals", x.combine(2, a, a), 1);
    }

    private static void folds() {
        LazyTensorTape x = new LazyTensorTape();
        int a = Check.counted(x, 2, 3, 2);
        Check.shows("first axis", x, x.fold(a, 0), Check.packed(3, 2), 8, 10, 12, 14, 16, 18);
        Check.shows("middle axis", x, x.fold(a, 1), Check.packed(2, 2), 9, 12, 27, 30);
        int last = x.fold(a, 2);
        Check.shows("last axis", x, last, Check.packed(2, 3), 3, 7, 11, 15, 19, 23);
        int all = x.fold(x.fold(last, 1), 0);
        Check.shows("to rank 0", x, all, 0, 78);
        Check.shows("of a view", x, x.fold(x.transpose(a, 0, 1), 0), Check.packed(2, 2), 9, 12, 27, 30);
        int e = x.expand(all, 0, 4);
        Check.shows("of the same again and again", x, x.fold(e, 0), 0, 312);
        Check.shows("of one", x, x.fold(x.expand(all, 0, 1), 0), 0, 78);
        x.put(a, 0, 101);
        Check.shows("present elements", x, all, 0, 178);
    }

    private static void foldRefusals() {
        LazyTensorTape x = new LazyTensorTape();
        int a = Check.counted(x, 2, 2);
        int scalar = x.leaf(0, 0, 0, 0);
        int[] noAxis = {-1, 2, 3, Integer.MAX_VALUE, Integer.MIN_VALUE};
        for (int axis : noAxis) {
            Check.due("fold along " + axis, x.fold(a, axis), -1);
        }
        Check.due("fold of rank 0", x.fold(scalar, 0), -1);
        for (int h : NO_HANDLES) {
            Check.due("fold(" + h + ")", x.fold(h, 0), -1);
        }
        Check.due("live after refusals", x.live(), 5);
    }

    private static void multiplies() {
        LazyTensorTape x = new LazyTensorTape();
        int a = Check.counted(x, 2, 3);
        int b = Check.counted(x, 3, 4);
        int p = x.multiply(a, b);
        Check.shows("2 x 3 times 3 x 4", x, p, Check.packed(2, 4), 38, 44, 50, 56, 83, 98, 113, 128);
        int row = Check.counted(x, 1, 3);
        int column = x.transpose(row, 0, 1);
        Check.shows("row times column", x, x.multiply(row, column), Check.packed(1, 1), 14);
        Check.shows("column times row", x, x.multiply(column, row), Check.packed(3, 3), 1, 2, 3, 2, 4, 6, 3, 6, 9);
        x.put(b, 0, 1000);
        Check.due("present element", x.at(p, 4), 83 + 4 * 999);
        int wide = Check.counted(x, 4, 4);
        x.put(wide, 0, 46341);
        Check.due("wrapping", x.at(x.multiply(wide, wide), 0), 46341 * 46341 + 2 * 5 + 3 * 9 + 4 * 13);
    }

    private static void multiplyRefusals() {
        LazyTensorTape x = new LazyTensorTape();
        int a = Check.counted(x, 2, 3);
        int v = Check.counted(x, 3);
        int deep = Check.counted(x, 3, 3, 3);
        int one = Check.counted(x, 1, 1);
        Check.due("inner dimensions differ", x.multiply(a, a), -1);
        Check.due("an inner dimension of 1", x.multiply(a, one), -1);
        Check.due("rank 1 second", x.multiply(a, v), -1);
        Check.due("rank 1 first", x.multiply(v, a), -1);
        Check.due("rank 3 second", x.multiply(a, deep), -1);
        Check.due("rank 3 first", x.multiply(deep, a), -1);
        for (int h : NO_HANDLES) {
            Check.due("multiply by " + h, x.multiply(one, h), -1);
            Check.due("multiply " + h, x.multiply(h, one), -1);
        }
        Check.due("live after refusals", x.live(), 37);
        Check.due("handle after refusals", x.multiply(one, one), 4);
    }

    private static void resultsArePresent() {
        LazyTensorTape x = new LazyTensorTape();
        int a = Check.counted(x, 2);
        int twice = x.combine(0, a, a);
        int square = x.combine(2, twice, twice);
        Check.shows("before", x, square, Check.packed(2), 4, 16);
        x.put(a, 0, 5);
        Check.shows("after put", x, square, Check.packed(2), 100, 16);
        x.assign(a, square);
        Check.shows("after assign", x, square, Check.packed(2), 40000, 1024);
    }

    private static void resultsOutliveHandles() {
        LazyTensorTape x = new LazyTensorTape();
        int a = Check.counted(x, 2);
        int view = x.slice(a, 0, 1, 2 * 8 + 4 - 1);
        int sum = x.combine(0, view, a);
        int product = x.combine(2, sum, view);
        x.drop(a);
        x.drop(sum);
        int other = x.leaf(1, 2, 0, 0);
        Check.due("the free handle", other, a);
        x.put(other, 0, 77);
        Check.shows("without its handles", x, product, Check.packed(2), 6, 3);
        x.put(view, 0, 10);
        Check.shows("set through the view", x, product, Check.packed(2), 110, 11);
    }

    /** A slot is used again and again, so a newer tensor often has a lower slot than what it was made from. */
    private static void longChain() {
        LazyTensorTape x = new LazyTensorTape();
        int a = Check.counted(x, 1);
        int h = x.combine(0, a, a);
        int want = 2;
        for (int i = 0; i < 29; i++) {
            int unused = x.leaf(0, 0, 0, 0);
            int next = x.combine(0, h, a);
            x.drop(unused);
            x.drop(h);
            h = next;
            want++;
        }
        Check.shows("sum of a chain", x, h, Check.packed(1), want);
        x.put(a, 0, 3);
        Check.shows("sum of a chain now", x, h, Check.packed(1), 3 * want);
        x.gradient(h, a);
        Check.slopes("of a chain", x, want);
    }
}
