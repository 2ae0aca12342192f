import java.util.Arrays;

/**
 * All promises: long runs of calls on the class and on the model, whose answers must agree. The calls come from
 * a counter, so every run of the test makes the same ones.
 */
public final class ModelTest {
    private static final int RUNS = 2000;
    private static final int CALLS = 512;
    private static final int[] ODD = {-1, 24, 25, 64, 1 << 20, Integer.MAX_VALUE, Integer.MIN_VALUE};

    private static long state;
    private static final int[] accepted = new int[16];

    private LazyTensorTape x;
    private Model model;
    private String call;
    private final int manyHandles;
    private final int mostDimension;

    private ModelTest(int run) {
        state = run * 7919L + 1;
        x = new LazyTensorTape();
        model = new Model();
        manyHandles = run % 4 * 6 + 6;
        mostDimension = run % 3 == 0 ? 1 : run % 3 == 1 ? 2 : 4;
    }

    public static void main(String[] args) {
        for (int run = 0; run < RUNS; run++) {
            new ModelTest(run).go(run);
        }
        String[] names = {"leaf", "transpose", "slice", "expand", "reshape", "combine", "fold", "multiply", "drop",
            "put", "assign", "gradient"};
        for (int kind = 0; kind < names.length; kind++) {
            System.out.println(names[kind] + " was accepted " + accepted[kind] + " times");
            Check.due(names[kind] + " is accepted often enough for the runs to tell something",
                accepted[kind] > 2000, true);
        }
        System.out.println("refused for want of handles, tensors, elements: " + Arrays.toString(Model.full));
        for (int limit = 0; limit < 3; limit++) {
            Check.due("limit " + limit + " is met often enough", Model.full[limit] > 500, true);
        }
        Check.end();
    }

    private void go(int run) {
        for (int n = 0; n < CALLS; n++) {
            int change = nextKind();
            long got;
            long want;
            if (change < 8) {
                int[] a = makingArguments(change);
                got = make(change, a);
                want = makeInModel(change, a);
            } else if (change < 18) {
                int[] a = settingArguments(change);
                got = set(change, a);
                want = setInModel(change, a);
            } else {
                int h = handle();
                int i = element(h);
                call = "read " + change + "(" + h + ", " + i + ")";
                got = read(change, h, i);
                want = readInModel(change, h, i);
            }
            Check.due("run " + run + ", call " + n + ": " + call, got, want);
        }
    }

    /** Below 8 makes a handle, below 18 sets something, the others read; so that there are always some handles. */
    private int nextKind() {
        int handles = 0;
        for (int h = 0; h < 24; h++) {
            handles += model.shape(h) >= 0 ? 1 : 0;
        }
        if (handles < 3) {
            return 0;
        }
        if (handles >= manyHandles && below(3) == 0) {
            return 8;
        }
        return below(26);
    }

    private int[] makingArguments(int kind) {
        switch (kind) {
            case 0:
                return new int[] {odd(below(4)), dimension(), dimension(), dimension()};
            case 1:
                return new int[] {handle(), axis(), axis()};
            case 2:
                int code = below(2) == 0 ? 8 + below(32) : 11 + below(3) + 8 * below(4);
                return new int[] {handle(), axis(), odd(below(4)), odd(code)};
            case 3:
                return new int[] {handle(), axis(), dimension()};
            case 4:
                return new int[] {handle(), packed()};
            case 5:
                return new int[] {odd(below(3)), handle(), handle()};
            case 6:
                return new int[] {handle(), axis()};
            default:
                return new int[] {handle(), handle()};
        }
    }

    private int[] settingArguments(int kind) {
        int h = handle();
        int leaf = handle();
        for (int tries = 0; tries < 20 && !model.isLeaf(leaf); tries++) {
            leaf = handle();
        }
        for (int tries = 0; kind == 10 && tries < 20 && model.shape(h) != model.shape(leaf); tries++) {
            h = handle();
        }
        return kind == 10 ? new int[] {leaf, h} : new int[] {h, leaf, element(h), value()};
    }

    private int packed() {
        int near = model.shape(handle());
        if (below(3) == 0 || near < 0) {
            return odd(below(4096));
        }
        int rank = near & 7;
        int dimensions = near >> 3;
        // A dimension of 1 in front, or the dimensions of some tensor: often the right number of elements.
        return rank < 3 && below(2) == 0 ? rank + 1 + 8 + (dimensions << 6) : near;
    }

    private int make(int kind, int[] a) {
        int made;
        switch (kind) {
            case 0 -> made = x.leaf(a[0], a[1], a[2], a[3]);
            case 1 -> made = x.transpose(a[0], a[1], a[2]);
            case 2 -> made = x.slice(a[0], a[1], a[2], a[3]);
            case 3 -> made = x.expand(a[0], a[1], a[2]);
            case 4 -> made = x.reshape(a[0], a[1]);
            case 5 -> made = x.combine(a[0], a[1], a[2]);
            case 6 -> made = x.fold(a[0], a[1]);
            default -> made = x.multiply(a[0], a[1]);
        }
        call = "make " + kind + Arrays.toString(a);
        accepted[kind] += made >= 0 ? 1 : 0;
        return made;
    }

    private int makeInModel(int kind, int[] a) {
        return switch (kind) {
            case 0 -> model.leaf(a[0], a[1], a[2], a[3]);
            case 1 -> model.transpose(a[0], a[1], a[2]);
            case 2 -> model.slice(a[0], a[1], a[2], a[3]);
            case 3 -> model.expand(a[0], a[1], a[2]);
            case 4 -> model.reshape(a[0], a[1]);
            case 5 -> model.combine(a[0], a[1], a[2]);
            case 6 -> model.fold(a[0], a[1]);
            default -> model.multiply(a[0], a[1]);
        };
    }

    private long set(int kind, int[] a) {
        boolean done;
        switch (kind) {
            case 8 -> done = x.drop(a[0]);
            case 10 -> done = x.assign(a[0], a[1]);
            case 11 -> done = x.gradient(a[0], a[1]);
            default -> done = x.put(a[0], a[2], a[3]);
        }
        call = "set " + kind + Arrays.toString(a);
        accepted[kind > 11 ? 9 : kind] += done ? 1 : 0;
        return done ? 1 : 0;
    }

    private long setInModel(int kind, int[] a) {
        boolean done = switch (kind) {
            case 8 -> model.drop(a[0]);
            case 10 -> model.assign(a[0], a[1]);
            case 11 -> model.gradient(a[0], a[1]);
            default -> model.put(a[0], a[2], a[3]);
        };
        return done ? 1 : 0;
    }

    private int read(int kind, int h, int i) {
        return switch (kind) {
            case 18 -> x.live();
            case 19 -> x.shape(h);
            case 20, 21 -> x.slope(i);
            default -> x.at(h, i);
        };
    }

    private int readInModel(int kind, int h, int i) {
        return switch (kind) {
            case 18 -> model.live();
            case 19 -> model.shape(h);
            case 20, 21 -> model.slope(i);
            default -> model.at(h, i);
        };
    }

    private int handle() {
        int h = below(24);
        for (int tries = 0; tries < 20 && model.shape(h) < 0; tries++) {
            h = below(24);
        }
        return odd(h);
    }

    private int axis() {
        return odd(below(below(4) == 0 ? 4 : 2));
    }

    private int dimension() {
        return odd(below(2) == 0 ? mostDimension : 1 + below(below(10) == 0 ? 5 : mostDimension));
    }

    private int element(int h) {
        return odd(below(below(10) == 0 ? 65 : model.size(h) + 1));
    }

    private int value() {
        return below(3) == 0 ? next() : below(20) - 10;
    }

    /** Mostly the given argument, now and then one far outside. */
    private static int odd(int argument) {
        return below(60) == 0 ? ODD[below(ODD.length)] : argument;
    }

    private static int below(int bound) {
        return Math.floorMod(next(), bound);
    }

    private static int next() {
        state = state * 6364136223846793005L + 1442695040888963407L;
        return (int) (state >>> 32);
    }
}
