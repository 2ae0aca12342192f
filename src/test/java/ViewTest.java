/** Promises 3 (transpose), 4 (slice) and 5 (expand). */
public final class ViewTest {
    public static void main(String[] args) {
        transposes();
        slices();
        slicesOfOnePosition();
        expands();
        viewsOfResults();
        Check.end();
    }

    private static void transposes() {
        LazyTensorTape x = new LazyTensorTape();
        int a = Check.counted(x, 2, 1, 3);
        Check.shows("outer axes", x, x.transpose(a, 0, 2), Check.packed(3, 1, 2), 1, 4, 2, 5, 3, 6);
        Check.shows("the other way", x, x.transpose(a, 2, 0), Check.packed(3, 1, 2), 1, 4, 2, 5, 3, 6);
        Check.shows("first axes", x, x.transpose(a, 0, 1), Check.packed(1, 2, 3), 1, 2, 3, 4, 5, 6);
        Check.shows("equal axes", x, x.transpose(a, 1, 1), Check.packed(2, 1, 3), 1, 2, 3, 4, 5, 6);
        int b = Check.counted(x, 2, 2, 2);
        int t = x.transpose(b, 1, 2);
        Check.shows("last axes", x, t, Check.packed(2, 2, 2), 1, 3, 2, 4, 5, 7, 6, 8);
        Check.shows("of a transpose", x, x.transpose(t, 0, 2), Check.packed(2, 2, 2), 1, 5, 2, 6, 3, 7, 4, 8);
        x.put(b, 1, 20);
        Check.shows("present elements", x, t, Check.packed(2, 2, 2), 1, 3, 20, 4, 5, 7, 6, 8);
    }

    private static void slices() {
        LazyTensorTape x = new LazyTensorTape();
        int a = Check.counted(x, 3, 4);
        Check.shows("rows", x, x.slice(a, 0, 2, Check.code(2, -2)), Check.packed(2, 4), 9, 10, 11, 12, 1, 2, 3, 4);
        int c = x.slice(a, 1, 1, Check.code(2, 2));
        Check.shows("columns", x, c, Check.packed(3, 2), 2, 4, 6, 8, 10, 12);
        int back = x.slice(c, 1, 1, Check.code(2, -1));
        Check.shows("columns back", x, back, Check.packed(3, 2), 4, 2, 8, 6, 12, 10);
        int middle = x.slice(back, 0, 1, Check.code(1, 3));
        Check.shows("one row of them", x, middle, Check.packed(1, 2), 8, 6);
        int again = x.slice(middle, 0, 0, Check.code(3, 0));
        Check.shows("the same row again", x, again, Check.packed(3, 2), 8, 6, 8, 6, 8, 6);
        int deep = Check.counted(x, 2, 2, 2);
        Check.shows("last of three axes", x, x.slice(deep, 2, 1, Check.code(1, 0)), Check.packed(2, 2, 1), 2, 4, 6, 8);
    }

    private static void slicesOfOnePosition() {
        LazyTensorTape x = new LazyTensorTape();
        int h = Check.counted(x, 4);
        int s = x.slice(h, 0, 2, Check.code(1, 3));
        for (int i = 0; i < 80; i++) {
            int next = x.slice(s, 0, 0, Check.code(1, i % 8 - 4));
            x.drop(s);
            s = next;
        }
        Check.shows("a slice of a slice of ..", x, s, Check.packed(1), 3);
        Check.shows("shown again", x, x.slice(s, 0, 0, Check.code(4, 0)), Check.packed(4), 3, 3, 3, 3);
        Check.shows("spread", x, x.combine(0, s, h), Check.packed(4), 4, 5, 6, 7);
    }

    private static void expands() {
        LazyTensorTape x = new LazyTensorTape();
        int a = Check.counted(x, 2);
        Check.shows("in front", x, x.expand(a, 0, 3), Check.packed(3, 2), 1, 2, 1, 2, 1, 2);
        int b = x.expand(a, 1, 3);
        Check.shows("behind", x, b, Check.packed(2, 3), 1, 1, 1, 2, 2, 2);
        Check.shows("between", x, x.expand(b, 1, 1), Check.packed(2, 1, 3), 1, 1, 1, 2, 2, 2);
        Check.shows("first of three", x, x.expand(x.transpose(b, 0, 1), 0, 2), Check.packed(2, 3, 2),
            1, 2, 1, 2, 1, 2, 1, 2, 1, 2, 1, 2);
        int scalar = x.leaf(0, 0, 0, 0);
        x.put(scalar, 0, 5);
        Check.shows("of rank 0", x, x.expand(scalar, 0, 4), Check.packed(4), 5, 5, 5, 5);
    }

    private static void viewsOfResults() {
        LazyTensorTape x = new LazyTensorTape();
        int a = Check.counted(x, 2, 2);
        int t = x.transpose(x.combine(2, a, a), 0, 1);
        Check.shows("transpose of a result", x, t, Check.packed(2, 2), 1, 9, 4, 16);
        x.put(a, 1, 5);
        Check.shows("present elements", x, t, Check.packed(2, 2), 1, 9, 25, 16);
    }
}
