/** Promises 6 (reshape), 7 (combine), 8 (fold) and 9 (multiply), and that results show the present elements. */
public final class ResultTest {
    public static void main(String[] args) {
        reshapes();
        combines();
        combineSpreads();
        folds();
        multiplies();
        resultsArePresent();
        resultsOutliveHandles();
        longChain();
        Check.end();
    }

    private static void reshapes() {
        LazyTensorTape x = new LazyTensorTape();
        int a = Check.counted(x, 2, 3);
        int t = x.transpose(a, 0, 1);
        int r = x.reshape(t, Check.packed(2, 3));
        Check.shows("of a transpose", x, r, Check.packed(2, 3), 1, 4, 2, 5, 3, 6);
        Check.shows("rank 3", x, x.reshape(a, Check.packed(3, 1, 2)), Check.packed(3, 1, 2), 1, 2, 3, 4, 5, 6);
        Check.due("live", x.live(), 18);
        x.put(a, 1, 20);
        Check.shows("present elements", x, r, Check.packed(2, 3), 1, 4, 20, 5, 3, 6);
        int one = x.slice(a, 1, 2, 8);
        int last = x.slice(one, 0, 1, 8);
        Check.shows("to rank 0", x, x.reshape(last, 0), 0, 6);
        int square = x.reshape(x.expand(last, 0, 4), Check.packed(2, 2));
        Check.shows("of an expand", x, square, Check.packed(2, 2), 6, 6, 6, 6);
        int scalar = x.reshape(last, 0);
        Check.shows("from rank 0", x, x.reshape(scalar, Check.packed(1, 1, 1)), Check.packed(1, 1, 1), 6);
    }

    private static void combines() {
        LazyTensorTape x = new LazyTensorTape();
        int a = Check.counted(x, 2, 2);
        int b = x.leaf(2, 2, 2, 0);
        for (int i = 0; i < 4; i++) {
            x.put(b, i, 10 - 3 * i);
        }
        Check.shows("sum", x, x.combine(0, a, b), Check.packed(2, 2), 11, 9, 7, 5);
        Check.shows("difference", x, x.combine(1, a, b), Check.packed(2, 2), -9, -5, -1, 3);
        Check.shows("the other difference", x, x.combine(1, b, a), Check.packed(2, 2), 9, 5, 1, -3);
        Check.shows("product", x, x.combine(2, a, b), Check.packed(2, 2), 10, 14, 12, 4);
        Check.shows("with itself", x, x.combine(1, a, a), Check.packed(2, 2), 0, 0, 0, 0);
    }

    private static void combineSpreads() {
        LazyTensorTape x = new LazyTensorTape();
        int row = Check.counted(x, 3);
        int column = Check.counted(x, 2, 1);
        Check.shows("row and column", x, x.combine(1, row, column), Check.packed(2, 3), 0, 1, 2, -1, 0, 1);
        Check.shows("column and row", x, x.combine(2, column, row), Check.packed(2, 3), 1, 2, 3, 2, 4, 6);
        int scalar = x.leaf(0, 0, 0, 0);
        x.put(scalar, 0, 10);
        Check.shows("row and scalar", x, x.combine(2, scalar, row), Check.packed(3), 10, 20, 30);
        int deep = Check.counted(x, 2, 1, 2);
        Check.shows("deep and column", x, x.combine(0, deep, column), Check.packed(2, 2, 2), 2, 3, 3, 4, 4, 5, 5, 6);
        int back = x.slice(row, 0, 2, Check.code(3, -1));
        Check.due("views that do not fit", x.combine(0, back, x.transpose(column, 0, 1)), -1);
        Check.shows("a view", x, x.combine(1, back, column), Check.packed(2, 3), 2, 1, 0, 1, 0, -1);
    }

    private static void folds() {
        LazyTensorTape x = new LazyTensorTape();
        int a = Check.counted(x, 2, 3, 2);
        Check.shows("first axis", x, x.fold(a, 0), Check.packed(3, 2), 8, 10, 12, 14, 16, 18);
        Check.shows("middle axis", x, x.fold(a, 1), Check.packed(2, 2), 9, 12, 27, 30);
        int last = x.fold(a, 2);
        Check.shows("last axis", x, last, Check.packed(2, 3), 3, 7, 11, 15, 19, 23);
        int all = x.fold(x.fold(last, 1), 0);
        Check.shows("to rank 0", x, all, 0, 78);
        Check.shows("of a view", x, x.fold(x.transpose(a, 0, 1), 0), Check.packed(2, 2), 9, 12, 27, 30);
        int e = x.expand(all, 0, 4);
        Check.shows("of the same again and again", x, x.fold(e, 0), 0, 312);
        Check.shows("of one", x, x.fold(x.expand(all, 0, 1), 0), 0, 78);
        x.put(a, 0, 101);
        Check.shows("present elements", x, all, 0, 178);
    }

    private static void multiplies() {
        LazyTensorTape x = new LazyTensorTape();
        int a = Check.counted(x, 2, 3);
        int b = Check.counted(x, 3, 4);
        int p = x.multiply(a, b);
        Check.shows("2 x 3 times 3 x 4", x, p, Check.packed(2, 4), 38, 44, 50, 56, 83, 98, 113, 128);
        int row = Check.counted(x, 1, 3);
        int column = x.transpose(row, 0, 1);
        Check.shows("row times column", x, x.multiply(row, column), Check.packed(1, 1), 14);
        Check.shows("column times row", x, x.multiply(column, row), Check.packed(3, 3), 1, 2, 3, 2, 4, 6, 3, 6, 9);
        x.put(b, 0, 1000);
        Check.due("present element", x.at(p, 4), 83 + 4 * 999);
        int wide = Check.counted(x, 4, 4);
        x.put(wide, 0, 46341);
        Check.due("wrapping", x.at(x.multiply(wide, wide), 0), 46341 * 46341 + 2 * 5 + 3 * 9 + 4 * 13);
    }

    private static void resultsArePresent() {
        LazyTensorTape x = new LazyTensorTape();
        int a = Check.counted(x, 2);
        int twice = x.combine(0, a, a);
        int square = x.combine(2, twice, twice);
        Check.shows("before", x, square, Check.packed(2), 4, 16);
        x.put(a, 0, 5);
        Check.shows("after put", x, square, Check.packed(2), 100, 16);
        x.assign(a, square);
        Check.shows("after assign", x, square, Check.packed(2), 40000, 1024);
    }

    private static void resultsOutliveHandles() {
        LazyTensorTape x = new LazyTensorTape();
        int a = Check.counted(x, 2);
        int view = x.slice(a, 0, 1, Check.code(2, -1));
        int sum = x.combine(0, view, a);
        int product = x.combine(2, sum, view);
        x.drop(a);
        x.drop(sum);
        int other = x.leaf(1, 2, 0, 0);
        Check.due("the free handle", other, a);
        x.put(other, 0, 77);
        Check.shows("without its handles", x, product, Check.packed(2), 6, 3);
        x.put(view, 0, 10);
        Check.shows("set through the view", x, product, Check.packed(2), 110, 11);
    }

    /** A slot is used again and again, so a newer tensor often has a lower slot than what it was made from. */
    private static void longChain() {
        LazyTensorTape x = new LazyTensorTape();
        int a = Check.counted(x, 1);
        int h = x.combine(0, a, a);
        int want = 2;
        for (int i = 0; i < 29; i++) {
            int unused = x.leaf(0, 0, 0, 0);
            int next = x.combine(0, h, a);
            x.drop(unused);
            x.drop(h);
            h = next;
            want++;
        }
        Check.shows("sum of a chain", x, h, Check.packed(1), want);
        x.put(a, 0, 3);
        Check.shows("sum of a chain now", x, h, Check.packed(1), 3 * want);
        x.gradient(h, a);
        Check.slopes("of a chain", x, want);
    }
}
