/** Promises 15 (gradient) and 16 (slope). */
public final class GradientTest {
    public static void main(String[] args) {
        ofLeafAndViews();
        ofCombines();
        ofSpreadTensors();
        ofFoldReshapeAndMultiply();
        ofSharedResults();
        ofOtherLeaves();
        ofTheGreatestTensors();
        Check.end();
    }

    private static void ofLeafAndViews() {
        LazyTensorTape x = new LazyTensorTape();
        int a = Check.counted(x, 2, 2);
        Check.due("gradient of the leaf itself", x.gradient(a, a), true);
        Check.slopes("leaf", x, 1, 1, 1, 1);
        Check.due("gradient of a view", x.gradient(x.slice(a, 1, 1, Check.code(4, 0)), a), true);
        Check.slopes("elements shown several times or not", x, 0, 4, 0, 4);
        Check.due("gradient of another view", x.gradient(x.expand(x.transpose(a, 0, 1), 0, 3), a), true);
        Check.slopes("expanded", x, 3, 3, 3, 3);
    }

    private static void ofCombines() {
        LazyTensorTape x = new LazyTensorTape();
        int a = Check.counted(x, 2);
        int b = x.leaf(1, 2, 0, 0);
        x.put(b, 0, 10);
        x.put(b, 1, 20);
        x.gradient(x.combine(0, a, b), b);
        Check.slopes("sum", x, 1, 1);
        x.gradient(x.combine(1, a, b), a);
        Check.slopes("difference, first", x, 1, 1);
        x.gradient(x.combine(1, a, b), b);
        Check.slopes("difference, second", x, -1, -1);
        x.gradient(x.combine(2, a, b), a);
        Check.slopes("product, first", x, 10, 20);
        x.gradient(x.combine(2, a, b), b);
        Check.slopes("product, second", x, 1, 2);
        x.gradient(x.combine(2, a, a), a);
        Check.slopes("square", x, 2, 4);
        x.gradient(x.combine(1, a, a), a);
        Check.slopes("difference with itself", x, 0, 0);
    }

    private static void ofSpreadTensors() {
        LazyTensorTape x = new LazyTensorTape();
        int row = Check.counted(x, 3);
        int column = Check.counted(x, 2, 1);
        int product = x.combine(2, row, column);
        x.gradient(product, row);
        Check.slopes("row", x, 3, 3, 3);
        x.gradient(product, column);
        Check.slopes("column", x, 6, 6);
        int scalar = x.leaf(0, 0, 0, 0);
        x.gradient(x.combine(1, product, scalar), scalar);
        Check.slopes("scalar", x, -6);
    }

    private static void ofFoldReshapeAndMultiply() {
        LazyTensorTape x = new LazyTensorTape();
        int a = Check.counted(x, 2, 3);
        int sums = x.fold(a, 0);
        x.gradient(x.combine(2, sums, sums), a);
        Check.slopes("squares of the sums", x, 10, 14, 18, 10, 14, 18);
        int b = Check.counted(x, 3, 2);
        int reshaped = x.reshape(x.transpose(a, 0, 1), Check.packed(3, 2));
        x.gradient(x.combine(2, reshaped, b), a);
        Check.slopes("reshaped", x, 1, 3, 5, 2, 4, 6);
        int p = x.multiply(a, b);
        x.gradient(p, a);
        Check.slopes("first factor", x, 3, 7, 11, 3, 7, 11);
        x.gradient(p, b);
        Check.slopes("second factor", x, 5, 5, 7, 7, 9, 9);
        x.gradient(x.combine(2, p, x.leaf(2, 2, 2, 0)), b);
        Check.slopes("times nothing", x, 0, 0, 0, 0, 0, 0);
    }

    private static void ofSharedResults() {
        LazyTensorTape x = new LazyTensorTape();
        int a = Check.counted(x, 1);
        int h = a;
        for (int i = 0; i < 20; i++) {
            h = x.combine(0, h, h);
        }
        x.gradient(h, a);
        Check.slopes("doubled 20 times", x, 1 << 20);
        int cube = x.combine(2, x.combine(2, a, a), a);
        x.put(a, 0, 5);
        x.gradient(cube, a);
        Check.slopes("cube at the present element", x, 75);
    }

    private static void ofOtherLeaves() {
        LazyTensorTape x = new LazyTensorTape();
        int a = Check.counted(x, 2);
        int b = Check.counted(x, 3);
        int sum = x.combine(0, a, a);
        Check.due("gradient by a leaf that is not in it", x.gradient(sum, b), true);
        Check.slopes("all 0", x, 0, 0, 0);
        x.drop(sum);
        int view = x.transpose(a, 0, 0);
        x.gradient(view, a);
        Check.slopes("of a view that is not a leaf", x, 1, 1);
    }

    private static void ofTheGreatestTensors() {
        LazyTensorTape x = new LazyTensorTape();
        int a = Check.counted(x, 4, 4, 4);
        int b = Check.counted(x, 4, 4, 4);
        int product = x.combine(2, a, x.transpose(b, 0, 2));
        int difference = x.combine(1, product, a);
        Check.due("accepted", x.gradient(difference, a), true);
        for (int i = 0; i < 64; i++) {
            int exchanged = (i % 4) * 16 + (i / 4 % 4) * 4 + i / 16;
            Check.due("slope " + i, x.slope(i), exchanged);
        }
        Check.due("slope 64", x.slope(64), 0);
        int m = Check.counted(x, 4, 4);
        int p = x.multiply(m, m);
        x.gradient(p, m);
        Check.slopes("square of a matrix", x, 38, 54, 70, 86, 38 + 4, 58, 74, 90, 46, 62, 78, 94, 50, 66, 82, 98);
    }
}
