/** Promises 10 (drop) and 17 (live), and which tensors and handles exist and how many may. */
public final class ExistingTest {
    public static void main(String[] args) {
        handlesAreReused();
        neededTensorsStay();
        bothSourcesStay();
        viewsKeepTheirTensor();
        chainsEndTogether();
        Check.end();
    }

    private static void handlesAreReused() {
        LazyTensorTape x = new LazyTensorTape();
        for (int h = 0; h < 6; h++) {
            Check.due("next handle", x.leaf(0, 0, 0, 0), h);
        }
        Check.due("drop(4)", x.drop(4), true);
        Check.due("drop(1)", x.drop(1), true);
        Check.due("drop(1) again", x.drop(1), false);
        Check.due("lowest free", x.expand(0, 0, 1), 1);
        Check.due("next free", x.combine(0, 0, 0), 4);
        Check.due("then a new one", x.leaf(0, 0, 0, 0), 6);
        Check.due("a dropped view", x.drop(1), true);
        Check.due("its handle again, as a leaf", x.leaf(0, 0, 0, 0), 1);
        Check.due("which can be assigned", x.assign(1, 0), true);
    }

    private static void neededTensorsStay() {
        LazyTensorTape x = new LazyTensorTape();
        int a = Check.counted(x, 2);
        int b = Check.counted(x, 3, 1);
        int c = x.combine(0, a, b);
        int f = x.fold(c, 0);
        Check.due("live", x.live(), 2 + 3 + 6 + 2);
        x.drop(b);
        x.drop(c);
        Check.due("live while needed", x.live(), 13);
        int g = x.combine(2, f, a);
        x.drop(f);
        Check.due("live while needed by two", x.live(), 15);
        x.drop(g);
        Check.due("live when needed no more", x.live(), 2);
        x.drop(a);
        Check.due("live in the end", x.live(), 0);
    }

    private static void bothSourcesStay() {
        for (int op = 0; op < 3; op++) {
            LazyTensorTape x = new LazyTensorTape();
            int a = Check.counted(x, 2, 2);
            int b = Check.counted(x, 2, 2);
            int c = op < 2 ? x.combine(op, a, b) : x.multiply(a, b);
            x.drop(a);
            x.drop(b);
            Check.due("live with both sources", x.live(), 12);
            Check.due("a new leaf", x.leaf(2, 2, 2, 0), 0);
            Check.due("live with a new leaf", x.live(), 16);
            Check.due("element 1", x.at(c, 1), op == 0 ? 4 : op == 1 ? 0 : 10);
            x.drop(c);
            Check.due("live without", x.live(), 4);
        }
    }

    private static void viewsKeepTheirTensor() {
        LazyTensorTape x = new LazyTensorTape();
        int a = Check.counted(x, 4, 4);
        int s = x.slice(a, 0, 0, 8);
        int t = x.transpose(s, 0, 1);
        x.drop(a);
        x.drop(s);
        Check.due("live of a viewed leaf", x.live(), 16);
        int r = x.reshape(t, Check.packed(4));
        x.drop(t);
        Check.due("live of a leaf that a view shows that a result needs", x.live(), 20);
        Check.shows("the result", x, r, Check.packed(4), 1, 2, 3, 4);
        x.drop(r);
        Check.due("live in the end", x.live(), 0);
    }

    private static void chainsEndTogether() {
        LazyTensorTape x = new LazyTensorTape();
        int h = x.leaf(0, 0, 0, 0);
        for (int n = 1; n < 32; n++) {
            int next = x.combine(0, h, h);
            x.drop(h);
            h = next;
            Check.due("live of a chain", x.live(), n + 1);
        }
        Check.due("one more", x.combine(0, h, h), -1);
        Check.due("a view", x.expand(h, 0, 2) >= 0, true);
        x.drop(h);
        Check.due("live while the view is there", x.live(), 32);
        x.drop(1 - h);
        Check.due("live in the end", x.live(), 0);
    }
}
