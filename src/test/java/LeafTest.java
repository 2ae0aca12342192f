/** Promises 1 (a new object), 2 (leaf), 11 (put), 12 (assign), 13 (shape) and 14 (at). */
public final class LeafTest {
    private static final int[] NO_HANDLES = {-1, 1, 23, 24, Integer.MAX_VALUE, Integer.MIN_VALUE};

    public static void main(String[] args) {
        newObject();
        leafShapes();
        leafRefusals();
        leafIsZeroInReusedRoom();
        newLeafLeavesOthersAlone();
        putOnLeaf();
        putOnViews();
        putRefusals();
        assignCopies();
        assignFromItself();
        assignRefusals();
        shapeAndAtOfNoHandle();
        Check.end();
    }

    private static void newObject() {
        LazyTensorTape x = new LazyTensorTape();
        Check.due("live of a new object", x.live(), 0);
        Check.due("slope of a new object", x.slope(0), 0);
        for (int h = -1; h <= 24; h++) {
            Check.due("shape(" + h + ") of a new object", x.shape(h), -1);
            Check.due("drop(" + h + ") of a new object", x.drop(h), false);
        }
        Check.due("first handle", x.leaf(0, 0, 0, 0), 0);
        LazyTensorTape other = new LazyTensorTape();
        Check.due("live of another object", other.live(), 0);
    }

    private static void leafShapes() {
        LazyTensorTape x = new LazyTensorTape();
        Check.due("leaf of rank 0", x.leaf(0, -7, 99, 5), 0);
        Check.due("leaf of rank 1", x.leaf(1, 4, 0, -1), 1);
        Check.due("leaf of rank 2", x.leaf(2, 2, 3, 9), 2);
        Check.due("leaf of rank 3", x.leaf(3, 1, 4, 2), 3);
        Check.shows("rank 0", x, 0, 0, 0);
        Check.shows("rank 1", x, 1, 1 + 32, 0, 0, 0, 0);
        Check.shows("rank 2", x, 2, 2 + 16 + 192, 0, 0, 0, 0, 0, 0);
        Check.shows("rank 3", x, 3, 3 + 8 + 256 + 1024, 0, 0, 0, 0, 0, 0, 0, 0);
        Check.due("live", x.live(), 1 + 4 + 6 + 8);
    }

    private static void leafRefusals() {
        LazyTensorTape x = new LazyTensorTape();
        int[] noDimension = {0, 5, -1, 8, 1 << 29, Integer.MIN_VALUE, Integer.MAX_VALUE};
        for (int d : noDimension) {
            Check.due("leaf(1, " + d + ")", x.leaf(1, d, 1, 1), -1);
            Check.due("leaf(2, 1, " + d + ")", x.leaf(2, 1, d, 1), -1);
            Check.due("leaf(3, 1, 1, " + d + ")", x.leaf(3, 1, 1, d), -1);
        }
        int[] noRank = {-1, 4, 8, Integer.MIN_VALUE, Integer.MAX_VALUE};
        for (int rank : noRank) {
            Check.due("leaf of rank " + rank, x.leaf(rank, 1, 1, 1), -1);
        }
        Check.due("live after refusals", x.live(), 0);
        Check.due("handle after refusals", x.leaf(3, 4, 4, 4), 0);
    }

    private static void leafIsZeroInReusedRoom() {
        LazyTensorTape x = new LazyTensorTape();
        Check.counted(x, 4, 4, 4);
        x.drop(0);
        x.leaf(3, 4, 4, 4);
        for (int i = 0; i < 64; i++) {
            Check.due("new leaf, element " + i, x.at(0, i), 0);
        }
    }

    private static void newLeafLeavesOthersAlone() {
        LazyTensorTape x = new LazyTensorTape();
        Check.counted(x, 4, 4, 4);
        Check.counted(x, 4, 4, 4);
        Check.counted(x, 4, 4, 4);
        x.drop(1);
        x.leaf(3, 4, 4, 4);
        Check.due("last element before", x.at(0, 63), 64);
        Check.due("first element behind", x.at(2, 0), 1);
        Check.due("assign all 64", x.assign(1, 0), true);
        Check.due("first of them", x.at(1, 0), 1);
        Check.due("last of them", x.at(1, 63), 64);
        x.put(0, 63, 5);
        Check.due("assign all 64 again", x.assign(1, 0), true);
        Check.due("last element before", x.at(0, 63), 5);
        Check.due("first element behind", x.at(2, 0), 1);
    }

    private static void putOnLeaf() {
        LazyTensorTape x = new LazyTensorTape();
        x.leaf(2, 2, 2, 0);
        x.leaf(1, 2, 0, 0);
        Check.due("put", x.put(0, 3, Integer.MIN_VALUE), true);
        Check.due("put", x.put(0, 1, 7), true);
        Check.due("put again", x.put(0, 1, 8), true);
        Check.shows("after put", x, 0, Check.packed(2, 2), 0, 8, 0, Integer.MIN_VALUE);
        Check.shows("the other leaf", x, 1, Check.packed(2), 0, 0);
    }

    private static void putOnViews() {
        LazyTensorTape x = new LazyTensorTape();
        int m = Check.counted(x, 2, 3);
        int t = x.transpose(m, 0, 1);
        Check.due("put on a transpose", x.put(t, 2, 20), true);
        Check.shows("leaf", x, m, Check.packed(2, 3), 1, 20, 3, 4, 5, 6);
        int s = x.slice(t, 0, 2, 3 * 8 + 4 - 1);
        Check.due("put on a slice of the transpose", x.put(s, 1, 60), true);
        Check.shows("leaf", x, m, Check.packed(2, 3), 1, 20, 3, 4, 5, 60);
        int e = x.expand(s, 0, 1);
        x.drop(m);
        Check.due("put after the leaf's handle went", x.put(e, 0, 30), true);
        Check.shows("transpose", x, t, Check.packed(3, 2), 1, 4, 20, 5, 30, 60);
        int twice = x.slice(t, 0, 0, 4 * 8 + 4);
        Check.due("put where an element is shown several times", x.put(twice, 6, 10), true);
        Check.shows("all of them", x, twice, Check.packed(4, 2), 10, 4, 10, 4, 10, 4, 10, 4);
    }

    private static void putRefusals() {
        LazyTensorTape x = new LazyTensorTape();
        int m = Check.counted(x, 2);
        int c = x.combine(0, m, m);
        int v = x.expand(c, 0, 2);
        int r = x.reshape(m, Check.packed(1, 2));
        int rv = x.transpose(r, 0, 1);
        int[] notSuch = {c, v, r, rv, -1, 5, 24, Integer.MAX_VALUE, Integer.MIN_VALUE};
        for (int h : notSuch) {
            Check.due("put on " + h, x.put(h, 0, 9), false);
        }
        int[] noElement = {-1, 2, 64, 2048, Integer.MAX_VALUE, Integer.MIN_VALUE};
        for (int i : noElement) {
            Check.due("put at " + i, x.put(m, i, 9), false);
            Check.due("at " + i, x.at(m, i), 0);
        }
        Check.shows("leaf", x, m, Check.packed(2), 1, 2);
        Check.shows("result", x, c, Check.packed(2), 2, 4);
    }

    private static void assignCopies() {
        LazyTensorTape x = new LazyTensorTape();
        int a = Check.counted(x, 2, 2);
        int b = x.leaf(2, 2, 2, 0);
        int t = x.transpose(a, 0, 1);
        Check.due("assign from a view", x.assign(b, t), true);
        Check.shows("assigned", x, b, Check.packed(2, 2), 1, 3, 2, 4);
        x.put(a, 1, 50);
        Check.shows("what is assigned stays", x, b, Check.packed(2, 2), 1, 3, 2, 4);
        int p = x.multiply(a, b);
        Check.due("assign from a result", x.assign(b, p), true);
        Check.shows("assigned", x, b, Check.packed(2, 2), 101, 203, 11, 25);
        Check.shows("result of the new elements", x, p, Check.packed(2, 2), 651, 1453, 347, 709);
        x.drop(a);
        Check.due("assign to a dropped handle", x.assign(a, b), false);
    }

    private static void assignFromItself() {
        LazyTensorTape x = new LazyTensorTape();
        int a = Check.counted(x, 4);
        int back = x.slice(a, 0, 3, 4 * 8 + 4 - 1);
        Check.due("assign from a view of itself", x.assign(a, back), true);
        Check.shows("reversed", x, a, Check.packed(4), 4, 3, 2, 1);
        Check.shows("its view", x, back, Check.packed(4), 1, 2, 3, 4);
        int sum = x.combine(0, a, back);
        x.put(a, 0, 10);
        Check.due("assign from a result of itself", x.assign(a, sum), true);
        Check.shows("leaf", x, a, Check.packed(4), 11, 5, 5, 11);
        Check.shows("result", x, sum, Check.packed(4), 22, 10, 10, 22);
        Check.due("assign to itself", x.assign(a, a), true);
        Check.shows("leaf", x, a, Check.packed(4), 11, 5, 5, 11);
    }

    private static void assignRefusals() {
        LazyTensorTape x = new LazyTensorTape();
        int a = Check.counted(x, 2, 2);
        int same = x.transpose(a, 0, 0);
        int result = x.combine(0, a, a);
        int flat = Check.counted(x, 4);
        int deep = Check.counted(x, 1, 2, 2);
        int b = x.leaf(2, 2, 2, 0);
        Check.due("assign to a view", x.assign(same, b), false);
        Check.due("assign to a result", x.assign(result, b), false);
        Check.due("assign from rank 1", x.assign(a, flat), false);
        Check.due("assign from rank 3", x.assign(a, deep), false);
        int[] none = {-1, 20, 24, Integer.MAX_VALUE, Integer.MIN_VALUE};
        for (int h : none) {
            Check.due("assign to " + h, x.assign(h, b), false);
            Check.due("assign from " + h, x.assign(a, h), false);
        }
        int wide = Check.counted(x, 2, 3);
        int high = Check.counted(x, 3, 2);
        Check.due("assign with dimensions exchanged", x.assign(wide, high), false);
        Check.shows("unchanged", x, a, Check.packed(2, 2), 1, 2, 3, 4);
    }

    private static void shapeAndAtOfNoHandle() {
        LazyTensorTape x = new LazyTensorTape();
        Check.counted(x, 3);
        for (int h : NO_HANDLES) {
            Check.due("shape(" + h + ")", x.shape(h), -1);
            Check.due("at(" + h + ", 0)", x.at(h, 0), 0);
        }
        x.drop(0);
        Check.due("shape of a dropped handle", x.shape(0), -1);
        Check.due("at of a dropped handle", x.at(0, 0), 0);
    }
}
