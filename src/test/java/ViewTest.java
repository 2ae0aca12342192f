/** Promises 3 (transpose), 4 (slice) and 5 (expand). */
public final class ViewTest {
    private static final int[] NO_HANDLES = {-1, 7, 23, 24, Integer.MAX_VALUE, Integer.MIN_VALUE};
    private static final int[] FAR = {-1, 3, 4, Integer.MAX_VALUE, Integer.MIN_VALUE};

    public static void main(String[] args) {
        transposes();
        transposeRefusals();
        slices();
        sliceSteps();
        sliceRefusals();
        slicesOfOnePosition();
        expands();
        expandRefusals();
        viewsOfResults();
        viewsTakeNoElements();
        Check.end();
    }

    private static int code(int count, int step) {
        return count * 8 + step + 4;
    }

    private static void transposes() {
        LazyTensorTape x = new LazyTensorTape();
        int a = Check.counted(x, 2, 1, 3);
        Check.shows("outer axes", x, x.transpose(a, 0, 2), Check.packed(3, 1, 2), 1, 4, 2, 5, 3, 6);
        Check.shows("the other way", x, x.transpose(a, 2, 0), Check.packed(3, 1, 2), 1, 4, 2, 5, 3, 6);
        Check.shows("first axes", x, x.transpose(a, 0, 1), Check.packed(1, 2, 3), 1, 2, 3, 4, 5, 6);
        Check.shows("equal axes", x, x.transpose(a, 1, 1), Check.packed(2, 1, 3), 1, 2, 3, 4, 5, 6);
        int b = Check.counted(x, 2, 2, 2);
        int t = x.transpose(b, 1, 2);
        Check.shows("last axes", x, t, Check.packed(2, 2, 2), 1, 3, 2, 4, 5, 7, 6, 8);
        Check.shows("of a transpose", x, x.transpose(t, 0, 2), Check.packed(2, 2, 2), 1, 5, 2, 6, 3, 7, 4, 8);
        x.put(b, 1, 20);
        Check.shows("present elements", x, t, Check.packed(2, 2, 2), 1, 3, 20, 4, 5, 7, 6, 8);
    }

    private static void transposeRefusals() {
        LazyTensorTape x = new LazyTensorTape();
        int a = Check.counted(x, 2, 3);
        int scalar = x.leaf(0, 0, 0, 0);
        for (int axis : FAR) {
            Check.due("transpose(a, " + axis + ", 0)", x.transpose(a, axis, 0), -1);
            Check.due("transpose(a, 0, " + axis + ")", x.transpose(a, 0, axis), -1);
        }
        Check.due("transpose beyond the rank", x.transpose(a, 2, 2), -1);
        Check.due("transpose of rank 0", x.transpose(scalar, 0, 0), -1);
        for (int h : NO_HANDLES) {
            Check.due("transpose(" + h + ")", x.transpose(h, 0, 0), -1);
        }
        Check.due("handle after refusals", x.transpose(a, 0, 1), 2);
    }

    private static void slices() {
        LazyTensorTape x = new LazyTensorTape();
        int a = Check.counted(x, 3, 4);
        Check.shows("rows", x, x.slice(a, 0, 2, code(2, -2)), Check.packed(2, 4), 9, 10, 11, 12, 1, 2, 3, 4);
        int c = x.slice(a, 1, 1, code(2, 2));
        Check.shows("columns", x, c, Check.packed(3, 2), 2, 4, 6, 8, 10, 12);
        int back = x.slice(c, 1, 1, code(2, -1));
        Check.shows("columns back", x, back, Check.packed(3, 2), 4, 2, 8, 6, 12, 10);
        int middle = x.slice(back, 0, 1, code(1, 3));
        Check.shows("one row of them", x, middle, Check.packed(1, 2), 8, 6);
        Check.shows("the same row again", x, x.slice(middle, 0, 0, code(3, 0)), Check.packed(3, 2), 8, 6, 8, 6, 8, 6);
        int deep = Check.counted(x, 2, 2, 2);
        Check.shows("last of three axes", x, x.slice(deep, 2, 1, code(1, 0)), Check.packed(2, 2, 1), 2, 4, 6, 8);
    }

    private static void sliceSteps() {
        for (int count = 1; count <= 4; count++) {
            for (int step = -4; step <= 3; step++) {
                for (int from = -1; from <= 4; from++) {
                    sliceOfFour(count, step, from);
                }
            }
        }
    }

    private static void sliceOfFour(int count, int step, int from) {
        LazyTensorTape x = new LazyTensorTape();
        int a = Check.counted(x, 4);
        int last = from + (count - 1) * step;
        boolean fits = from >= 0 && from < 4 && last >= 0 && last < 4;
        String call = "slice from " + from + " count " + count + " step " + step;
        int s = x.slice(a, 0, from, code(count, step));
        Check.due(call, s, fits ? 1 : -1);
        if (fits) {
            int[] want = new int[count];
            for (int i = 0; i < count; i++) {
                want[i] = from + i * step + 1;
            }
            Check.shows(call, x, s, Check.packed(count), want);
        }
    }

    private static void sliceRefusals() {
        LazyTensorTape x = new LazyTensorTape();
        int a = Check.counted(x, 2, 4);
        int scalar = x.leaf(0, 0, 0, 0);
        int[] codes = {Integer.MIN_VALUE, -12, -1, 0, 4, 7, 40, 44, Integer.MAX_VALUE};
        for (int code : codes) {
            Check.due("slice with code " + code, x.slice(a, 1, 0, code), -1);
        }
        for (int axis : FAR) {
            Check.due("slice along axis " + axis, x.slice(a, axis, 0, 12), -1);
            Check.due("slice from " + axis, x.slice(a, 0, axis, 12), -1);
        }
        Check.due("slice along axis 2", x.slice(a, 2, 0, 12), -1);
        Check.due("slice from far with a step back", x.slice(a, 0, 2, code(2, -1)), -1);
        Check.due("slice from before with a step on", x.slice(a, 0, -1, code(2, 1)), -1);
        Check.due("slice of rank 0", x.slice(scalar, 0, 0, 12), -1);
        for (int h : NO_HANDLES) {
            Check.due("slice(" + h + ")", x.slice(h, 0, 0, 12), -1);
        }
        Check.due("code 8", x.slice(a, 1, 0, 8), 2);
        Check.due("code 39", x.slice(a, 1, 0, 39), -1);
        Check.due("code 36", x.slice(a, 1, 0, 36), 3);
    }

    private static void slicesOfOnePosition() {
        LazyTensorTape x = new LazyTensorTape();
        int h = Check.counted(x, 4);
        int s = x.slice(h, 0, 2, code(1, 3));
        for (int i = 0; i < 80; i++) {
            int next = x.slice(s, 0, 0, code(1, i % 8 - 4));
            x.drop(s);
            s = next;
        }
        Check.shows("a slice of a slice of ..", x, s, Check.packed(1), 3);
        Check.shows("shown again", x, x.slice(s, 0, 0, code(4, 0)), Check.packed(4), 3, 3, 3, 3);
        Check.shows("spread", x, x.combine(0, s, h), Check.packed(4), 4, 5, 6, 7);
    }

    private static void expands() {
        LazyTensorTape x = new LazyTensorTape();
        int a = Check.counted(x, 2);
        Check.shows("in front", x, x.expand(a, 0, 3), Check.packed(3, 2), 1, 2, 1, 2, 1, 2);
        int b = x.expand(a, 1, 3);
        Check.shows("behind", x, b, Check.packed(2, 3), 1, 1, 1, 2, 2, 2);
        Check.shows("between", x, x.expand(b, 1, 1), Check.packed(2, 1, 3), 1, 1, 1, 2, 2, 2);
        Check.shows("first of three", x, x.expand(x.transpose(b, 0, 1), 0, 2), Check.packed(2, 3, 2),
            1, 2, 1, 2, 1, 2, 1, 2, 1, 2, 1, 2);
        int scalar = x.leaf(0, 0, 0, 0);
        x.put(scalar, 0, 5);
        Check.shows("of rank 0", x, x.expand(scalar, 0, 4), Check.packed(4), 5, 5, 5, 5);
    }

    private static void expandRefusals() {
        LazyTensorTape x = new LazyTensorTape();
        int a = Check.counted(x, 2, 2);
        int full = Check.counted(x, 2, 2, 2);
        int scalar = x.leaf(0, 0, 0, 0);
        for (int axis : FAR) {
            Check.due("expand before axis " + axis, x.expand(a, axis, 2), -1);
        }
        int[] noDimension = {0, 5, -1, Integer.MAX_VALUE, Integer.MIN_VALUE};
        for (int d : noDimension) {
            Check.due("expand by " + d, x.expand(a, 0, d), -1);
        }
        Check.due("expand of rank 3", x.expand(full, 0, 1), -1);
        Check.due("expand of rank 0 before axis 1", x.expand(scalar, 1, 1), -1);
        for (int h : NO_HANDLES) {
            Check.due("expand(" + h + ")", x.expand(h, 0, 1), -1);
        }
        Check.due("handle after refusals", x.expand(a, 2, 4), 3);
    }

    private static void viewsOfResults() {
        LazyTensorTape x = new LazyTensorTape();
        int a = Check.counted(x, 2, 2);
        int t = x.transpose(x.combine(2, a, a), 0, 1);
        Check.shows("transpose of a result", x, t, Check.packed(2, 2), 1, 9, 4, 16);
        x.put(a, 1, 5);
        Check.shows("present elements", x, t, Check.packed(2, 2), 1, 9, 25, 16);
    }

    private static void viewsTakeNoElements() {
        LazyTensorTape x = new LazyTensorTape();
        int a = Check.counted(x, 2, 2);
        x.transpose(a, 0, 1);
        x.slice(a, 0, 0, code(4, 0));
        x.expand(a, 0, 4);
        Check.due("live", x.live(), 4);
    }
}
