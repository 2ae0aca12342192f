/** The edges of promises 10 (drop) and 17 (live). The limits are in TermsEdgeTest. */
public final class ExistingEdgeTest {
    public static void main(String[] args) {
        dropOfNoHandle();
        dropOfEachHandle();
        dropGivesTheHandleUpAlone();
        dropOfTheOnlyHandle();
        dropOfTheFirstAndTheLast();
        liveOfNothing();
        liveCountsEachOnce();
        liveCountsWhatIsNeeded();
        liveCountsNothingThatWasNeededBefore();
        liveOfTheMost();
        Check.end();
    }

    /** Promise 10: "false if h is none" */
    private static void dropOfNoHandle() {
        for (int h : Scene.NO_HANDLES) {
            Twins.refuseToSet("drop of " + h, Scene::set, x -> x.drop(h));
        }
        for (int h : Scene.ALL) {
            Twins.Scene dropped = x -> {
                Scene.set(x);
                x.drop(h);
            };
            Twins.refuseToSet("a second drop of " + h, dropped, x -> x.drop(h));
        }
    }

    /** Promise 10: "Gives a handle up", whatever tensor it is of: no call takes it any more. */
    private static void dropOfEachHandle() {
        for (int h : Scene.ALL) {
            LazyTensorTape x = Scene.make();
            Check.due("drop(" + h + ")", x.drop(h), true);
            Check.due("shape", x.shape(h), -1);
            Check.due("at", x.at(h, 0), 0);
            Check.due("put", x.put(h, 0, 1), false);
            Check.due("assign to it", x.assign(h, h), false);
            Check.due("gradient of it", x.gradient(h, h), false);
            Check.due("transpose", x.transpose(h, 0, 0), -1);
            Check.due("slice", x.slice(h, 0, 0, Check.code(1, 0)), -1);
            Check.due("expand", x.expand(h, 0, 1), -1);
            Check.due("fold", x.fold(h, 0), -1);
            Check.due("combine", x.combine(0, h, h), -1);
            Check.due("multiply", x.multiply(h, h), -1);
            Check.due("the lowest free handle", x.leaf(0, 0, 0, 0), Math.min(h, Scene.FREE));
            Check.due("the next one", x.leaf(0, 0, 0, 0), Math.max(h, Scene.FREE));
        }
    }

    /** Promise 10: the other handles show what they showed, also those that show its elements. */
    private static void dropGivesTheHandleUpAlone() {
        for (int h : Scene.ALL) {
            LazyTensorTape before = Scene.make();
            LazyTensorTape x = Scene.make();
            x.drop(h);
            for (int other : Scene.ALL) {
                int shape = before.shape(other);
                for (int i = 0; other != h && i < Check.size(shape); i++) {
                    Check.due("element " + i + " of " + other + " without " + h, x.at(other, i), before.at(other, i));
                }
                Check.due("shape of " + other + " without " + h, x.shape(other), other == h ? -1 : shape);
            }
            Check.due("slope without " + h, x.slope(0), before.slope(0));
        }
    }

    /** Promise 10: the only handle: afterwards nothing exists, as in a new object. */
    private static void dropOfTheOnlyHandle() {
        Twins.Scene nothing = x -> { };
        Twins.makeAndDrop("a small leaf", nothing, x -> x.leaf(0, 0, 0, 0));
        Twins.makeAndDrop("a great leaf", nothing, x -> x.leaf(3, 4, 4, 4));
        Twins.makeAndDrop("a leaf that is set", nothing, x -> Check.counted(x, 3));
    }

    /** Promise 10: handles 0 and 23. */
    private static void dropOfTheFirstAndTheLast() {
        LazyTensorTape x = new LazyTensorTape();
        for (int h = 0; h < 24; h++) {
            x.leaf(0, 0, 0, 0);
        }
        Check.due("drop(24)", x.drop(24), false);
        Check.due("drop(-1)", x.drop(-1), false);
        Check.due("live", x.live(), 24);
        Check.due("drop(23)", x.drop(23), true);
        Check.due("drop(0)", x.drop(0), true);
        Check.due("live", x.live(), 22);
        Check.due("drop(23) again", x.drop(23), false);
        Check.due("drop(0) again", x.drop(0), false);
        Check.due("live", x.live(), 22);
    }

    /** Promise 17: 0 while nothing exists, at first and in the end. */
    private static void liveOfNothing() {
        LazyTensorTape x = new LazyTensorTape();
        Check.due("at first", x.live(), 0);
        Scene.set(x);
        Check.due("with tensors", x.live(), 6 + 1 + 4 + 2 + 8 + 6 + 3);
        for (int h : Scene.ALL) {
            x.drop(h);
        }
        Check.due("in the end", x.live(), 0);
        LazyTensorTape y = Scene.make();
        for (int n = Scene.ALL.length - 1; n >= 0; n--) {
            y.drop(Scene.ALL[n]);
        }
        Check.due("in the end, from the last to the first", y.live(), 0);
    }

    /** Promise 17: "elements of all existing tensors that have their own": one needed by many counts once. */
    private static void liveCountsEachOnce() {
        LazyTensorTape x = new LazyTensorTape();
        x.leaf(1, 3, 0, 0);
        int square = x.combine(2, 0, 0);
        int view = x.transpose(0, 0, 0);
        int sum = x.combine(0, view, square);
        Check.due("a leaf that is needed four times", x.live(), 9);
        x.drop(0);
        x.drop(square);
        Check.due("without two handles", x.live(), 9);
        x.drop(view);
        Check.due("without the view", x.live(), 9);
        x.drop(sum);
        Check.due("without the last", x.live(), 0);
    }

    /** Promise 17: each call that makes a tensor from one or two others keeps all of them. */
    private static void liveCountsWhatIsNeeded() {
        keeps("reshape", 8, x -> x.reshape(0, Check.packed(4)));
        keeps("fold", 6, x -> x.fold(0, 0));
        keeps("combine with itself", 8, x -> x.combine(1, 0, 0));
        keeps("combine", 12, x -> x.combine(1, 0, 1));
        keeps("combine, the other way", 12, x -> x.combine(1, 1, 0));
        keeps("multiply by itself", 8, x -> x.multiply(0, 0));
        keeps("multiply", 12, x -> x.multiply(0, 1));
        keeps("transpose", 4, x -> x.transpose(0, 0, 1));
        keeps("slice", 4, x -> x.slice(0, 0, 0, Check.code(1, 0)));
        keeps("expand", 4, x -> x.expand(0, 0, 4));
    }

    /** Promise 17: what an earlier tensor in the same room was made from is not needed by the present one. */
    private static void liveCountsNothingThatWasNeededBefore() {
        needs("leaf", 4, x -> x.leaf(1, 4, 0, 0));
        needs("reshape", 8, x -> x.reshape(0, Check.packed(4)));
        needs("fold", 6, x -> x.fold(0, 0));
        needs("combine with itself", 8, x -> x.combine(1, 0, 0));
        needs("multiply by itself", 8, x -> x.multiply(0, 0));
    }

    private static void needs(String what, int live, Twins.MakingCall call) {
        LazyTensorTape x = new LazyTensorTape();
        x.leaf(2, 2, 2, 0);
        x.leaf(2, 2, 2, 0);
        x.leaf(2, 2, 2, 0);
        x.drop(x.multiply(1, 2));
        x.drop(x.combine(0, 2, 1));
        int made = call.on(x);
        x.drop(2);
        x.drop(1);
        x.drop(0);
        Check.due("live with a " + what + " where a result of others was", x.live(), live);
        x.drop(made);
        Check.due("live without it", x.live(), 0);
    }

    private static void keeps(String what, int live, Twins.MakingCall call) {
        LazyTensorTape x = new LazyTensorTape();
        x.leaf(2, 2, 2, 0);
        x.leaf(2, 2, 2, 0);
        int made = call.on(x);
        x.drop(0);
        x.drop(1);
        Check.due("live with a " + what + " alone", x.live(), live);
        x.drop(made);
        Check.due("live without it", x.live(), 0);
    }

    /** Promise 17: 320 is the most. */
    private static void liveOfTheMost() {
        LazyTensorTape x = new LazyTensorTape();
        for (int n = 1; n <= 5; n++) {
            x.leaf(3, 4, 4, 4);
            Check.due("live of " + n + " great leaves", x.live(), 64 * n);
        }
        x.leaf(3, 4, 4, 4);
        Check.due("live after a refused leaf", x.live(), 320);
        x.expand(x.slice(0, 0, 0, Check.code(1, 0)), 0, 4);
        Check.due("live with views", x.live(), 320);
    }
}
