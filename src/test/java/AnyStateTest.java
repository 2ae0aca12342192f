/**
 * Rules 7 and 11 of LANGUAGE.md: no call throws or fails to end, for any arguments in any state, also long after the
 * 512th, where answers are free; and the same calls on two objects always have the same answers.
 */
public final class AnyStateTest {
    private static final int RUNS = 20;
    private static final int CALLS = 50000;
    private static final int[] ODD = {-1, 4, 23, 24, 31, 32, 64, 88, 320, 2048, 4095, 4096, 1431655765, 1431655766,
        1 << 30, Integer.MAX_VALUE - 1, Integer.MAX_VALUE, Integer.MIN_VALUE, Integer.MIN_VALUE + 1};

    private static long state;

    private final int run;
    private final int[] arguments = new int[4];
    private int made = 0;

    private AnyStateTest(int run) {
        this.run = run;
        state = run * 104729L + 3;
    }

    public static void main(String[] args) {
        for (int run = 0; run < RUNS; run++) {
            new AnyStateTest(run).go();
        }
        Check.end();
    }

    private void go() {
        LazyTensorTape x = new LazyTensorTape();
        LazyTensorTape twin = new LazyTensorTape();
        for (int n = 0; n < CALLS; n++) {
            int kind = below(16);
            choose(kind);
            int answer = answer(x, kind);
            Check.due("run " + run + ", call " + n + " of kind " + kind + " on the twin", answer(twin, kind), answer);
            made += kind > 0 && kind < 8 && answer >= 0 ? 1 : 0;
        }
        Check.due("enough is made from other tensors in run " + run + " to tell something", made > CALLS / 100, true);
    }

    /** Arguments that are often accepted, each of them now and then replaced by any other. */
    private void choose(int kind) {
        for (int n = 0; n < 4; n++) {
            arguments[n] = below(kind == 0 ? 5 : n == 0 ? 24 : 3);
        }
        switch (kind) {
            case 2 -> arguments[3] = 8 + below(32);
            case 4 -> arguments[1] = below(5) + 8 * below(5) + 64 * below(5) + 512 * below(5);
            case 5 -> arguments[3] = below(24);
            case 7, 10, 13 -> arguments[1] = below(24);
            case 9 -> arguments[3] = next();
            default -> { }
        }
        if (below(8) == 0) {
            arguments[below(4)] = below(2) == 0 ? ODD[below(ODD.length)] : next();
        }
    }

    private int answer(LazyTensorTape x, int kind) {
        int[] a = arguments;
        return switch (kind) {
            case 0 -> x.leaf(a[0], a[1], a[2], a[3]);
            case 1 -> x.transpose(a[0], a[1], a[2]);
            case 2 -> x.slice(a[0], a[1], a[2], a[3]);
            case 3 -> x.expand(a[0], a[1], a[2]);
            case 4 -> x.reshape(a[0], a[1]);
            case 5 -> x.combine(a[1], a[0], a[3]);
            case 6 -> x.fold(a[0], a[1]);
            case 7 -> x.multiply(a[0], a[1]);
            case 9 -> x.put(a[0], a[1], a[3]) ? 1 : 0;
            case 10 -> x.assign(a[0], a[1]) ? 1 : 0;
            case 11 -> x.shape(a[0]);
            case 12 -> x.at(a[0], a[1]);
            case 13 -> x.gradient(a[0], a[1]) ? 1 : 0;
            case 14 -> x.slope(a[1]);
            case 15 -> x.live();
            default -> x.drop(a[0]) ? 1 : 0;
        };
    }

    private static int below(int bound) {
        return Math.floorMod(next(), bound);
    }

    private static int next() {
        state = state * 6364136223846793005L + 1442695040888963407L;
        return (int) (state >>> 32);
    }
}
