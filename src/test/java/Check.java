/** Counts and prints the answers that are not the ones that are due. */
final class Check {
    private static int wrong = 0;

    private Check() {
    }

    static void due(String call, long got, long want) {
        if (got != want) {
            wrong++;
            System.out.println(call + " answered " + got + ", due is " + want);
        }
    }

    static void due(String call, boolean got, boolean want) {
        if (got != want) {
            wrong++;
            System.out.println(call + " answered " + got + ", due is " + want);
        }
    }

    /** Tensor h has the packed shape and shows these elements and none after them. */
    static void shows(String what, LazyTensorTape x, int h, int shape, int... elements) {
        due(what + ": shape", x.shape(h), shape);
        for (int i = 0; i < elements.length; i++) {
            due(what + ": element " + i, x.at(h, i), elements[i]);
        }
        due(what + ": element beyond the last", x.at(h, elements.length), 0);
    }

    static void slopes(String what, LazyTensorTape x, int... slopes) {
        for (int i = 0; i < slopes.length; i++) {
            due(what + ": slope " + i, x.slope(i), slopes[i]);
        }
        due(what + ": slope beyond the last", x.slope(slopes.length), 0);
    }

    /** A leaf with the elements 1, 2, 3, .. */
    static int counted(LazyTensorTape x, int... dimensions) {
        int[] d = {0, 0, 0};
        int size = 1;
        for (int axis = 0; axis < dimensions.length; axis++) {
            d[axis] = dimensions[axis];
            size *= dimensions[axis];
        }
        int h = x.leaf(dimensions.length, d[0], d[1], d[2]);
        for (int i = 0; i < size; i++) {
            x.put(h, i, i + 1);
        }
        return h;
    }

    static int packed(int... dimensions) {
        int packed = dimensions.length;
        for (int axis = 0; axis < dimensions.length; axis++) {
            packed += dimensions[axis] << (3 + 3 * axis);
        }
        return packed;
    }

    /** The number of elements of a packed shape. */
    static int size(int shape) {
        int size = 1;
        for (int axis = 0; axis < shape % 8; axis++) {
            size *= shape >> (3 + 3 * axis) & 7;
        }
        return size;
    }

    /** The code of slice for that count and step. */
    static int code(int count, int step) {
        return count * 8 + step + 4;
    }

    static void end() {
        System.out.println(wrong == 0 ? "all answers are as due" : wrong + " answers are not as due");
        if (wrong != 0) {
            System.exit(1);
        }
    }
}
