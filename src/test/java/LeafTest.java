/** Promises 2 (leaf), 11 (put), 12 (assign), 13 (shape) and 14 (at). */
public final class LeafTest {
    public static void main(String[] args) {
        leafShapes();
        newLeafLeavesOthersAlone();
        putOnLeaf();
        putOnViews();
        assignCopies();
        Check.end();
    }

    private static void leafShapes() {
        LazyTensorTape x = new LazyTensorTape();
        Check.due("leaf of rank 0", x.leaf(0, -7, 99, 5), 0);
        Check.due("leaf of rank 1", x.leaf(1, 4, 0, -1), 1);
        Check.due("leaf of rank 2", x.leaf(2, 2, 3, 9), 2);
        Check.due("leaf of rank 3", x.leaf(3, 1, 4, 2), 3);
        Check.shows("rank 0", x, 0, 0, 0);
        Check.shows("rank 1", x, 1, 1 + 32, 0, 0, 0, 0);
        Check.shows("rank 2", x, 2, 2 + 16 + 192, 0, 0, 0, 0, 0, 0);
        Check.shows("rank 3", x, 3, 3 + 8 + 256 + 1024, 0, 0, 0, 0, 0, 0, 0, 0);
        Check.due("live", x.live(), 1 + 4 + 6 + 8);
    }

    private static void newLeafLeavesOthersAlone() {
        LazyTensorTape x = new LazyTensorTape();
        Check.counted(x, 4, 4, 4);
        Check.counted(x, 4, 4, 4);
        Check.counted(x, 4, 4, 4);
        x.drop(1);
        x.leaf(3, 4, 4, 4);
        Check.due("last element before", x.at(0, 63), 64);
        Check.due("first element behind", x.at(2, 0), 1);
        Check.due("assign all 64", x.assign(1, 0), true);
        Check.due("first of them", x.at(1, 0), 1);
        Check.due("last of them", x.at(1, 63), 64);
        x.put(0, 63, 5);
        Check.due("assign all 64 again", x.assign(1, 0), true);
        Check.due("last element before", x.at(0, 63), 5);
        Check.due("first element behind", x.at(2, 0), 1);
    }

    private static void putOnLeaf() {
        LazyTensorTape x = new LazyTensorTape();
        x.leaf(2, 2, 2, 0);
        x.leaf(1, 2, 0, 0);
        Check.due("put", x.put(0, 3, Integer.MIN_VALUE), true);
        Check.due("put", x.put(0, 1, 7), true);
        Check.due("put again", x.put(0, 1, 8), true);
        Check.shows("after put", x, 0, Check.packed(2, 2), 0, 8, 0, Integer.MIN_VALUE);
        Check.shows("the other leaf", x, 1, Check.packed(2), 0, 0);
    }

    private static void putOnViews() {
        LazyTensorTape x = new LazyTensorTape();
        int m = Check.counted(x, 2, 3);
        int t = x.transpose(m, 0, 1);
        Check.due("put on a transpose", x.put(t, 2, 20), true);
        Check.shows("leaf", x, m, Check.packed(2, 3), 1, 20, 3, 4, 5, 6);
        int s = x.slice(t, 0, 2, Check.code(3, -1));
        Check.due("put on a slice of the transpose", x.put(s, 1, 60), true);
        Check.shows("leaf", x, m, Check.packed(2, 3), 1, 20, 3, 4, 5, 60);
        int e = x.expand(s, 0, 1);
        x.drop(m);
        Check.due("put after the leaf's handle went", x.put(e, 0, 30), true);
        Check.shows("transpose", x, t, Check.packed(3, 2), 1, 4, 20, 5, 30, 60);
        int twice = x.slice(t, 0, 0, Check.code(4, 0));
        Check.due("put where an element is shown several times", x.put(twice, 6, 10), true);
        Check.shows("all of them", x, twice, Check.packed(4, 2), 10, 4, 10, 4, 10, 4, 10, 4);
    }

    private static void assignCopies() {
        LazyTensorTape x = new LazyTensorTape();
        int a = Check.counted(x, 2, 2);
        int b = x.leaf(2, 2, 2, 0);
        int t = x.transpose(a, 0, 1);
        Check.due("assign from a view", x.assign(b, t), true);
        Check.shows("assigned", x, b, Check.packed(2, 2), 1, 3, 2, 4);
        x.put(a, 1, 50);
        Check.shows("what is assigned stays", x, b, Check.packed(2, 2), 1, 3, 2, 4);
        int p = x.multiply(a, b);
        Check.due("assign from a result", x.assign(b, p), true);
        Check.shows("assigned", x, b, Check.packed(2, 2), 101, 203, 11, 25);
        Check.shows("result of the new elements", x, p, Check.packed(2, 2), 651, 1453, 347, 709);
        x.drop(a);
        Check.due("assign to a dropped handle", x.assign(a, b), false);
    }
}
