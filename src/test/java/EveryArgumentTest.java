import java.util.ArrayList;
import java.util.Arrays;
import java.util.List;

/**
 * Promises 2 to 9 and 12: a leaf of every shape, or two, and every argument from below the least to above the
 * greatest. Answers, shapes, elements and derivatives must be those of the model.
 */
public final class EveryArgumentTest {
    private interface Call<T> {
        int on(T object);
    }

    /** Not more than 512 calls on one object, the last ones for what a call has made. */
    private static final int ENOUGH = 512 - 2 * 64 - 10;

    private final int[][] shapes;
    private LazyTensorTape x;
    private Model model;
    private int calls;

    private EveryArgumentTest(int[]... shapes) {
        this.shapes = shapes;
        start();
    }

    public static void main(String[] args) {
        leaves();
        for (int[] shape : everyShape()) {
            views(shape);
            results(shape);
            for (int[] other : everyShape()) {
                pairs(shape, other);
            }
        }
        Check.end();
    }

    private static List<int[]> everyShape() {
        List<int[]> all = new ArrayList<>();
        for (int packed = 0; packed < 4096; packed++) {
            int rank = packed % 8;
            int[] dimensions = new int[Math.min(rank, 3)];
            boolean fits = rank <= 3 && packed >> (3 + 3 * rank) == 0;
            for (int axis = 0; axis < dimensions.length; axis++) {
                dimensions[axis] = packed >> (3 + 3 * axis) & 7;
                fits &= dimensions[axis] >= 1 && dimensions[axis] <= 4;
            }
            if (fits) {
                all.add(dimensions);
            }
        }
        Check.due("shapes", all.size(), 1 + 4 + 16 + 64);
        return all;
    }

    private void start() {
        x = new LazyTensorTape();
        model = new Model();
        calls = 0;
        for (int[] shape : shapes) {
            int h = Check.counted(x, shape);
            int size = Check.size(Check.packed(shape));
            int[] d = Arrays.copyOf(shape, 3);
            model.leaf(shape.length, d[0], d[1], d[2]);
            for (int i = 0; i < size; i++) {
                model.put(h, i, i + 1);
            }
            calls += size + 1;
        }
        if (shapes.length > 1) {
            x.put(1, 0, 1000);
            model.put(1, 0, 1000);
            calls++;
        }
    }

    private void same(String call, Call<LazyTensorTape> onTape, Call<Model> onModel) {
        if (calls > ENOUGH) {
            start();
        }
        int made = onTape.on(x);
        Check.due(call, made, onModel.on(model));
        calls++;
        if (made >= 0) {
            showsTheSame(call, made);
            x.drop(made);
            model.drop(made);
            calls++;
        }
    }

    private void showsTheSame(String call, int made) {
        Check.due(call + ": shape", x.shape(made), model.shape(made));
        Check.due(call + ": live", x.live(), model.live());
        int size = model.size(made);
        for (int i = 0; i <= size; i++) {
            Check.due(call + ": element " + i, x.at(made, i), model.at(made, i));
        }
        calls += size + 3;
        if (shapes.length == 1) {
            slopesTheSame(call, made);
        }
    }

    private void slopesTheSame(String call, int made) {
        Check.due(call + ": gradient", x.gradient(made, 0), model.gradient(made, 0));
        int size = model.size(0);
        for (int i = 0; i <= size; i++) {
            Check.due(call + ": slope " + i, x.slope(i), model.slope(i));
        }
        calls += size + 2;
    }

    private static void leaves() {
        EveryArgumentTest test = new EveryArgumentTest(new int[] {1});
        for (int rank = -1; rank <= 4; rank++) {
            for (int d = 0; d < 6 * 6 * 6; d++) {
                int r = rank;
                int d0 = d / 36;
                int d1 = d / 6 % 6;
                int d2 = d % 6;
                test.same("leaf(" + r + ", " + d0 + ", " + d1 + ", " + d2 + ")", x -> x.leaf(r, d0, d1, d2),
                    model -> model.leaf(r, d0, d1, d2));
            }
        }
    }

    private static void views(int[] shape) {
        EveryArgumentTest test = new EveryArgumentTest(shape);
        String of = " of shape " + Check.packed(shape);
        for (int axis = -1; axis <= 4; axis++) {
            int a = axis;
            for (int other = -1; other <= 6; other++) {
                int b = other;
                test.same("transpose " + a + " " + b + of, x -> x.transpose(0, a, b),
                    model -> model.transpose(0, a, b));
                test.same("expand " + a + " " + b + of, x -> x.expand(0, a, b), model -> model.expand(0, a, b));
            }
            for (int n = 0; n < 6 * 42; n++) {
                int from = n / 42 - 1;
                int code = n % 42;
                test.same("slice " + a + " " + from + " " + code + of, x -> x.slice(0, a, from, code),
                    model -> model.slice(0, a, from, code));
            }
        }
    }

    private static void results(int[] shape) {
        EveryArgumentTest test = new EveryArgumentTest(shape);
        String of = " of shape " + Check.packed(shape);
        for (int axis = -1; axis <= 4; axis++) {
            int a = axis;
            test.same("fold " + a + of, x -> x.fold(0, a), model -> model.fold(0, a));
        }
        for (int packed = -1; packed <= 4200; packed++) {
            int p = packed;
            test.same("reshape " + p + of, x -> x.reshape(0, p), model -> model.reshape(0, p));
        }
    }

    private static void pairs(int[] one, int[] other) {
        EveryArgumentTest test = new EveryArgumentTest(one, other);
        String of = " of shapes " + Check.packed(one) + " and " + Check.packed(other);
        for (int op = -1; op <= 3; op++) {
            int o = op;
            test.same("combine " + o + of, x -> x.combine(o, 0, 1), model -> model.combine(o, 0, 1));
        }
        test.same("multiply" + of, x -> x.multiply(0, 1), model -> model.multiply(0, 1));
        Check.due("assign" + of, test.x.assign(0, 1), test.model.assign(0, 1));
        Check.due("element 0 after assign" + of, test.x.at(0, 0), test.model.at(0, 0));
    }
}
