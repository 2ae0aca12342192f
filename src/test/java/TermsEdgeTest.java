/** The edges that the section "Terms" names: tensors, handles, what exists, and its three limits. */
public final class TermsEdgeTest {
    private static final String[] MAKING =
        {"leaf", "reshape", "combine", "fold", "multiply", "transpose", "slice", "expand"};
    private static final int OWN = 5;

    public static void main(String[] args) {
        objectsAreUsedFor512Calls();
        ranksAreZeroToThree();
        dimensionsAreOneToFour();
        rankZeroHasOneElement();
        lastIndexRunsFastest();
        handlesAreZeroTo23();
        lowestFreeHandleIsGiven();
        everyCallMayGetHandleZero();
        refusedCallsAnswerMinusOne();
        madeTensorsLeaveTheOthersAlone();
        viewsShowOneWithItsOwnElementsInTheEnd();
        viewsHaveNoElementsOfTheirOwn();
        resultsAreNotComputedOnceForAll();
        resultsStayWhenHandlesGo();
        tensorsExistWhileTheirHandleDoes();
        tensorsExistWhileTheyAreNeeded();
        atMost24Handles();
        atMost32TensorsWithTheirOwnElements();
        atMost320ElementsTogether();
        limitsCountWhatIsNeeded();
        limitsCountNothingThatIsGone();
        Check.end();
    }

    /** Calls number 0 .. 4 make a tensor with its own elements, 5 .. 7 a view; handle 0 must be a 1 x 1 tensor. */
    private static int make(LazyTensorTape x, int call) {
        return switch (call) {
            case 0 -> x.leaf(2, 1, 1, 0);
            case 1 -> x.reshape(0, Check.packed(1, 1));
            case 2 -> x.combine(0, 0, 0);
            case 3 -> x.fold(0, 0);
            case 4 -> x.multiply(0, 0);
            case 5 -> x.transpose(0, 0, 1);
            case 6 -> x.slice(0, 0, 0, Check.code(1, 0));
            default -> x.expand(0, 0, 1);
        };
    }

    /** "An object is used for at most 512 calls after it has been made": the 512th still answers. */
    private static void objectsAreUsedFor512Calls() {
        LazyTensorTape x = new LazyTensorTape();
        for (int n = 0; n < 255; n++) {
            Check.due("a leaf again and again", x.leaf(3, 4, 4, 4), 0);
            Check.due("its drop", x.drop(0), true);
        }
        Check.due("call 511", x.leaf(3, 4, 4, 4), 0);
        Check.due("call 512", x.live(), 64);
        LazyTensorTape y = new LazyTensorTape();
        Check.counted(y, 2);
        for (int n = 0; n < 254; n++) {
            Check.due("a view of a view", y.transpose(n % 2, 0, 0), 1 - n % 2);
            Check.due("the drop of what it shows", y.drop(n % 2), true);
        }
        Check.due("call 512", y.at(0, 1), 2);
    }

    /** "TENSORS have a rank 0..3 and as many dimensions": made by any call, 0 and 3 are reached and not exceeded. */
    private static void ranksAreZeroToThree() {
        LazyTensorTape x = Scene.make();
        Check.due("a leaf of rank 0", x.shape(x.leaf(0, 9, 9, 9)), 0);
        Check.due("a leaf of rank 3", x.shape(x.leaf(3, 1, 1, 1)), Check.packed(1, 1, 1));
        Check.due("a fold to rank 0", x.shape(x.fold(Scene.ROW, 0)), 0);
        Check.due("an expand to rank 3", x.shape(x.expand(Scene.LEAF, 2, 1)), Check.packed(2, 3, 1));
        Check.due("a reshape to rank 0", x.shape(x.reshape(Scene.SCALAR, 0)), 0);
        Check.due("a reshape to rank 3", x.shape(x.reshape(Scene.LEAF, Check.packed(1, 2, 3))), Check.packed(1, 2, 3));
        Twins.refuseToMake("a leaf of rank 4", Scene::set, y -> y.leaf(4, 1, 1, 1));
        Twins.refuseToMake("an expand to rank 4", Scene::set, y -> y.expand(Scene.DEEP, 0, 1));
        Twins.refuseToMake("a fold below rank 0", Scene::set, y -> y.fold(Scene.SCALAR, 0));
    }

    /** ".. dimensions, each 1..4": made by any call, 1 and 4 are reached and not exceeded. */
    private static void dimensionsAreOneToFour() {
        LazyTensorTape x = new LazyTensorTape();
        Check.due("greatest leaf", x.shape(Check.counted(x, 4, 4, 4)), 2339);
        for (int i = 0; i < 64; i++) {
            Check.due("element " + i + " of 64", x.at(0, i), i + 1);
        }
        Check.due("element 64 of 64", x.at(0, 64), 0);
        Check.due("least leaf", x.shape(Check.counted(x, 1, 1, 1)), 3 + 8 + 64 + 512);
        Check.due("expand to 4", x.shape(x.expand(x.leaf(0, 0, 0, 0), 0, 4)), Check.packed(4));
        Check.due("slice to 4", x.shape(x.slice(1, 0, 0, Check.code(4, 0))), Check.packed(4, 1, 1));
        Twins.refuseToMake("a leaf with dimension 5", Scene::set, y -> y.leaf(3, 1, 1, 5));
        Twins.refuseToMake("an expand to 5", Scene::set, y -> y.expand(Scene.SCALAR, 0, 5));
        Twins.refuseToMake("a slice to 5", Scene::set, y -> y.slice(Scene.ROW, 0, 0, Check.code(5, 0)));
        Twins.refuseToMake("a reshape to 6", Scene::set, y -> y.reshape(Scene.LEAF, Check.packed(6)));
        Twins.refuseToMake("a reshape to 1 x 6", Scene::set, y -> y.reshape(Scene.LEAF, Check.packed(1, 6)));
    }

    /** "a tensor of rank 0 has one element": whichever call made it. */
    private static void rankZeroHasOneElement() {
        LazyTensorTape x = new LazyTensorTape();
        int row = Check.counted(x, 3);
        int scalar = x.leaf(0, 0, 0, 0);
        Check.due("its element 0 is set", x.put(scalar, 0, 5), true);
        Check.due("an element 1 is not", x.put(scalar, 1, 6), false);
        Check.due("a leaf has one element", x.live(), 4);
        Check.shows("leaf", x, scalar, 0, 5);
        Check.shows("fold", x, x.fold(row, 0), 0, 6);
        Check.shows("reshape", x, x.reshape(scalar, 0), 0, 5);
        Check.shows("combine", x, x.combine(2, scalar, scalar), 0, 25);
        Check.due("each has one element", x.live(), 7);
        Check.due("a gradient by it", x.gradient(scalar, scalar), true);
        Check.slopes("by it", x, 1);
    }

    /** "Elements are counted row by row: the last index runs fastest." */
    private static void lastIndexRunsFastest() {
        LazyTensorTape x = new LazyTensorTape();
        int a = Check.counted(x, 2, 3, 4);
        for (int i = 0; i < 24; i++) {
            int plane = x.slice(a, 0, i / 12, Check.code(1, 0));
            int line = x.slice(plane, 1, i / 4 % 3, Check.code(1, 0));
            int point = x.slice(line, 2, i % 4, Check.code(1, 0));
            Check.shows("element " + i, x, point, Check.packed(1, 1, 1), i + 1);
            x.drop(plane);
            x.drop(line);
            x.drop(point);
        }
    }

    /** "Handles are numbers 0..23": 0 is the first, 23 the last, and each of them can be used. */
    private static void handlesAreZeroTo23() {
        LazyTensorTape x = new LazyTensorTape();
        for (int h = 0; h < 24; h++) {
            Check.due("handle " + h, x.leaf(0, 0, 0, 0), h);
            Check.due("put on it", x.put(h, 0, h + 50), true);
        }
        Check.due("no handle 24", x.leaf(0, 0, 0, 0), -1);
        Check.due("shape of handle -1", x.shape(-1), -1);
        Check.due("shape of handle 24", x.shape(24), -1);
        for (int h = 0; h < 24; h++) {
            Check.shows("handle " + h, x, h, 0, h + 50);
        }
    }

    /** "a new handle is the lowest number that is free": for each call that makes one. */
    private static void lowestFreeHandleIsGiven() {
        for (int call = 0; call < MAKING.length; call++) {
            LazyTensorTape x = new LazyTensorTape();
            for (int h = 0; h < 24; h++) {
                x.leaf(2, 1, 1, 0);
            }
            x.drop(23);
            x.drop(1);
            x.drop(12);
            Check.due(MAKING[call] + ", the lowest", make(x, call), 1);
            Check.due(MAKING[call] + ", the next", make(x, call), 12);
            Check.due(MAKING[call] + ", the last", make(x, call), 23);
            Check.due(MAKING[call] + ", none", make(x, call), -1);
        }
    }

    /** "Handles are numbers 0..23": 0 is a handle as good as any for a tensor made from another one. */
    private static void everyCallMayGetHandleZero() {
        atHandleZero("leaf", x -> x.leaf(2, 2, 2, 0), 0, 0, 0, 0);
        atHandleZero("transpose", x -> x.transpose(1, 0, 1), 1, 3, 2, 4);
        atHandleZero("slice", x -> x.slice(1, 0, 1, Check.code(2, -1)), 3, 4, 1, 2);
        atHandleZero("expand", x -> x.expand(1, 2, 2), 1, 1, 2, 2, 3, 3, 4, 4);
        atHandleZero("reshape", x -> x.reshape(1, Check.packed(4)), 1, 2, 3, 4);
        atHandleZero("combine", x -> x.combine(2, 1, 1), 1, 4, 9, 16);
        atHandleZero("fold", x -> x.fold(1, 0), 4, 6);
        atHandleZero("multiply", x -> x.multiply(1, 1), 7, 10, 15, 22);
    }

    private static void atHandleZero(String what, Twins.MakingCall call, int... elements) {
        LazyTensorTape x = new LazyTensorTape();
        Check.counted(x, 3);
        Check.counted(x, 2, 2);
        Check.counted(x, 1);
        x.drop(0);
        Check.due(what + " at handle 0", call.on(x), 0);
        x.put(2, 0, 9);
        Check.shows(what + " at handle 0", x, 0, x.shape(0), elements);
        Check.shows("what it was made from", x, 1, Check.packed(2, 2), 1, 2, 3, 4);
    }

    /** "The calls that make a handle answer it, or -1 and change nothing if they refuse": all eight. */
    private static void refusedCallsAnswerMinusOne() {
        Twins.refuseToMake("leaf", Scene::set, x -> x.leaf(-1, 1, 1, 1));
        Twins.refuseToMake("transpose", Scene::set, x -> x.transpose(Scene.LEAF, 0, 2));
        Twins.refuseToMake("slice", Scene::set, x -> x.slice(Scene.LEAF, 0, 1, Check.code(2, 1)));
        Twins.refuseToMake("expand", Scene::set, x -> x.expand(Scene.LEAF, 3, 1));
        Twins.refuseToMake("reshape", Scene::set, x -> x.reshape(Scene.LEAF, Check.packed(2, 2)));
        Twins.refuseToMake("combine", Scene::set, x -> x.combine(0, Scene.LEAF, Scene.TURNED));
        Twins.refuseToMake("fold", Scene::set, x -> x.fold(Scene.LEAF, 2));
        Twins.refuseToMake("multiply", Scene::set, x -> x.multiply(Scene.LEAF, Scene.LEAF));
    }

    /** A call that makes a handle does no more than that: when it is dropped, all is as it was. */
    private static void madeTensorsLeaveTheOthersAlone() {
        for (int h : Scene.ALL) {
            Twins.makeAndDrop("combine with " + h, Scene::set, x -> x.combine(1, h, Scene.SCALAR));
            Twins.makeAndDrop("combine to " + h, Scene::set, x -> x.combine(2, Scene.SCALAR, h));
        }
        Twins.makeAndDrop("great leaf", Scene::set, x -> x.leaf(3, 4, 4, 4));
        Twins.makeAndDrop("small leaf", Scene::set, x -> x.leaf(0, 0, 0, 0));
        for (int h : new int[] {Scene.LEAF, Scene.TURNED, Scene.DEEP, Scene.SLICED, Scene.RESHAPED, Scene.SPREAD}) {
            Twins.makeAndDrop("transpose of " + h, Scene::set, x -> x.transpose(h, 0, 1));
            Twins.makeAndDrop("slice of " + h, Scene::set, x -> x.slice(h, 1, 0, Check.code(2, 0)));
            Twins.makeAndDrop("fold of " + h, Scene::set, x -> x.fold(h, 1));
        }
        for (int h : new int[] {Scene.LEAF, Scene.TURNED, Scene.RESHAPED, Scene.SPREAD, Scene.ROW, Scene.SCALAR}) {
            Twins.makeAndDrop("expand of " + h, Scene::set, x -> x.expand(h, 0, 3));
            Twins.makeAndDrop("reshape of " + h, Scene::set, x -> x.reshape(h, x.shape(h)));
        }
        Twins.makeAndDrop("multiply", Scene::set, x -> x.multiply(Scene.TURNED, Scene.LEAF));
        Twins.makeAndDrop("multiply", Scene::set, x -> x.multiply(Scene.SPREAD, Scene.SPREAD));
        Twins.makeAndDrop("combine to rank 3", Scene::set, x -> x.combine(0, Scene.DEEP, Scene.DEEP));
    }

    /** "a VIEW .. which shows elements of another tensor and in the end of one that has its own" */
    private static void viewsShowOneWithItsOwnElementsInTheEnd() {
        LazyTensorTape x = new LazyTensorTape();
        int a = Check.counted(x, 2, 3);
        int view = x.slice(x.transpose(x.expand(a, 0, 2), 0, 2), 0, 2, Check.code(2, -2));
        Check.shows("views of views", x, view, Check.packed(2, 2, 2), 3, 3, 6, 6, 1, 1, 4, 4);
        x.put(a, 5, 60);
        Check.shows("what they show now", x, view, Check.packed(2, 2, 2), 3, 3, 60, 60, 1, 1, 4, 4);
        x.put(view, 7, 40);
        Check.shows("set through them", x, a, Check.packed(2, 3), 1, 2, 3, 40, 5, 60);
        int sums = x.fold(a, 0);
        int shown = x.expand(x.slice(sums, 0, 2, Check.code(3, -1)), 1, 2);
        Check.shows("views of a result", x, shown, Check.packed(3, 2), 63, 63, 7, 7, 41, 41);
        x.put(a, 1, 20);
        Check.shows("what they show now", x, shown, Check.packed(3, 2), 63, 63, 25, 25, 41, 41);
    }

    /** "A tensor has its own ELEMENTS (made by leaf, combine, fold, multiply, reshape) or is a VIEW" */
    private static void viewsHaveNoElementsOfTheirOwn() {
        for (int call = 0; call < MAKING.length; call++) {
            LazyTensorTape x = new LazyTensorTape();
            x.leaf(2, 1, 1, 0);
            make(x, call);
            Check.due("live after " + MAKING[call], x.live(), call < OWN ? 2 : 1);
        }
    }

    /** "an element of a tensor made by combine, fold, multiply or reshape is always what its definition gives" */
    private static void resultsAreNotComputedOnceForAll() {
        present("combine", x -> x.combine(0, 0, 0), new int[] {2, 4, 6, 8}, new int[] {20, 4, 6, 8});
        present("fold", x -> x.fold(0, 0), new int[] {4, 6}, new int[] {13, 6});
        present("multiply", x -> x.multiply(0, 0), new int[] {7, 10, 15, 22}, new int[] {106, 28, 42, 22});
        present("reshape", x -> x.reshape(0, Check.packed(4)), new int[] {1, 2, 3, 4}, new int[] {10, 2, 3, 4});
        present("a view of a result", x -> x.transpose(x.combine(2, 0, 0), 0, 1), new int[] {1, 9, 4, 16},
            new int[] {100, 9, 4, 16});
        present("a result of a result", x -> x.fold(x.combine(2, 0, 0), 1), new int[] {5, 25}, new int[] {104, 25});
    }

    /** Handle 0 has the elements 1, 2, 3, 4 before, and 10, 2, 3, 4 after. */
    private static void present(String what, Twins.MakingCall call, int[] before, int[] after) {
        LazyTensorTape x = new LazyTensorTape();
        Check.counted(x, 2, 2);
        int view = x.transpose(0, 0, 1);
        int other = Check.counted(x, 2, 2);
        int result = call.on(x);
        int shape = x.shape(result);
        Check.shows(what + " at first", x, result, shape, before);
        x.put(0, 0, 10);
        Check.shows(what + " after put", x, result, shape, after);
        x.assign(0, other);
        Check.shows(what + " after assign", x, result, shape, before);
        x.put(view, 0, 10);
        Check.shows(what + " after put on a view", x, result, shape, after);
    }

    /** ".. views the same, down to the leaves, whether their handles still exist or not" */
    private static void resultsStayWhenHandlesGo() {
        LazyTensorTape x = new LazyTensorTape();
        int a = Check.counted(x, 3);
        int back = x.slice(a, 0, 2, Check.code(3, -1));
        int sum = x.combine(0, a, back);
        int wide = x.expand(sum, 0, 2);
        int square = x.combine(2, wide, wide);
        int total = x.fold(x.fold(square, 0), 0);
        for (int h = 0; h < total; h++) {
            Check.due("drop of " + h, x.drop(h), true);
        }
        Check.shows("with its own handle alone", x, total, 0, 2 * 3 * 16);
        for (int n = 0; n < 4; n++) {
            Check.counted(x, 3);
        }
        Check.shows("with new tensors under the old handles", x, total, 0, 2 * 3 * 16);
        Check.due("live", x.live(), 3 + 3 + 6 + 3 + 1 + 12);
        LazyTensorTape y = new LazyTensorTape();
        Check.counted(y, 2);
        y.slice(0, 0, 1, Check.code(1, 0));
        y.combine(2, 0, 1);
        y.drop(0);
        y.put(1, 0, 9);
        Check.shows("set through a view when the leaf's handle is gone", y, 2, Check.packed(2), 9, 81);
    }

    /** "A tensor exists as long as its handle exists .." */
    private static void tensorsExistWhileTheirHandleDoes() {
        for (int call = 0; call < OWN; call++) {
            LazyTensorTape x = new LazyTensorTape();
            x.leaf(2, 1, 1, 0);
            int made = make(x, call);
            Check.due("live with " + MAKING[call], x.live(), 2);
            x.drop(made);
            Check.due("live without " + MAKING[call], x.live(), 1);
        }
    }

    /** ".. or it is needed: because an existing tensor was made from it" */
    private static void tensorsExistWhileTheyAreNeeded() {
        for (int call = 1; call < MAKING.length; call++) {
            LazyTensorTape x = new LazyTensorTape();
            x.leaf(2, 1, 1, 0);
            x.put(0, 0, 3);
            int own = call < OWN ? 1 : 0;
            int made = make(x, call);
            x.drop(0);
            Check.due("live while " + MAKING[call] + " needs it", x.live(), 1 + own);
            Check.due("another leaf", x.leaf(2, 1, 1, 0), 0);
            Check.due("shown by " + MAKING[call], x.at(made, 0), call == 2 ? 6 : call == 4 ? 9 : 3);
            int later = x.slice(made, 0, 0, Check.code(1, 0));
            x.drop(made);
            Check.due("live while a view of it is there", x.live(), 2 + own);
            x.drop(later);
            Check.due("live when nothing needs it", x.live(), 1);
        }
    }

    /** "At most 24 handles .. exist": for each making call, the 24th is given and the 25th refused. */
    private static void atMost24Handles() {
        for (int call = 0; call < MAKING.length; call++) {
            int number = call;
            LazyTensorTape x = new LazyTensorTape();
            takeHandles(x, 23);
            Check.due(MAKING[call] + " as the 24th", make(x, call), 23);
            Twins.refuseToMake(MAKING[call] + " as the 25th", y -> takeHandles(y, 24), y -> make(y, number));
            Check.due("drop of another", x.drop(7), true);
            Check.due(MAKING[call] + " after a drop", make(x, call), 7);
        }
    }

    private static void takeHandles(LazyTensorTape x, int count) {
        x.leaf(2, 1, 1, 0);
        for (int h = 1; h < count; h++) {
            Check.due("handle " + h, h % 2 == 0 ? x.leaf(0, 0, 0, 0) : x.transpose(0, 0, 1), h);
        }
    }

    /** "32 tensors with their own elements exist": the 32nd is made and the 33rd refused; views do not count. */
    private static void atMost32TensorsWithTheirOwnElements() {
        for (int call = 0; call < OWN; call++) {
            int number = call;
            LazyTensorTape x = new LazyTensorTape();
            takeTensors(x, 31);
            Check.due(MAKING[call] + " as the 32nd", make(x, call), 2);
            Check.due("live", x.live(), 32);
            Twins.refuseToMake(MAKING[call] + " as the 33rd", y -> takeTensors(y, 32), y -> make(y, number));
        }
        for (int call = OWN; call < MAKING.length; call++) {
            LazyTensorTape x = new LazyTensorTape();
            takeTensors(x, 32);
            for (int h = 2; h < 24; h++) {
                Check.due(MAKING[call] + " beside 32 tensors", make(x, call), h);
            }
            Check.due("live", x.live(), 32);
            Check.due("the newest of 32 sums", x.at(1, 0), 32);
        }
    }

    /** Handle 0 is a 1 x 1 leaf with the element 1, handle 1 the newest of a chain of sums of it. */
    private static void takeTensors(LazyTensorTape x, int count) {
        Check.counted(x, 1, 1);
        x.combine(0, 0, 0);
        for (int n = 2; n < count; n++) {
            Check.due("the next sum", x.combine(0, 1, 0), 2);
            x.drop(1);
            Check.due("the same shape", x.transpose(2, 0, 0), 1);
            x.drop(2);
        }
    }

    /** "and these have at most 320 elements together": 320 is reached and 321 refused; views do not count. */
    private static void atMost320ElementsTogether() {
        elementLimit("leaf of 64", 64, x -> { }, x -> x.leaf(3, 4, 4, 4));
        elementLimit("leaf of 1", 1, x -> { }, x -> x.leaf(0, 0, 0, 0));
        elementLimit("reshape of 64", 64, x -> x.leaf(3, 4, 4, 4), x -> x.reshape(0, Check.packed(4, 4, 4)));
        elementLimit("reshape of 1", 1, x -> x.leaf(0, 0, 0, 0), x -> x.reshape(0, Check.packed(1)));
        elementLimit("reshape of a view of 12", 12, x -> x.expand(x.leaf(1, 4, 0, 0), 0, 3),
            x -> x.reshape(1, Check.packed(4, 3)));
        elementLimit("combine to 64", 64, TermsEdgeTest::columnsAndRow, x -> x.combine(1, 1, 2));
        elementLimit("combine to 1", 1, x -> x.leaf(0, 0, 0, 0), x -> x.combine(2, 0, 0));
        elementLimit("fold to 16", 16, x -> x.leaf(3, 4, 4, 4), x -> x.fold(0, 1));
        elementLimit("fold to 1", 1, x -> x.leaf(1, 4, 0, 0), x -> x.fold(0, 0));
        elementLimit("multiply to 16", 16, x -> x.leaf(2, 4, 4, 0), x -> x.multiply(0, 0));
        elementLimit("multiply to 1", 1, x -> x.leaf(2, 1, 1, 0), x -> x.multiply(0, 0));
        LazyTensorTape x = new LazyTensorTape();
        x.leaf(2, 4, 4, 0);
        takeElements(x, 320);
        Check.due("live", x.live(), 320);
        Check.due("expand beside 320 elements", x.expand(0, 0, 4), 8);
        Check.due("slice beside 320 elements", x.slice(0, 0, 3, Check.code(4, -1)), 9);
        Check.due("transpose beside 320 elements", x.transpose(0, 0, 1), 10);
        Check.due("live with 96 elements in views", x.live(), 320);
    }

    /** Handle 1 is 4 x 4 x 1, handle 2 is 1 x 4, and both show the 4 elements of handle 0. */
    private static void columnsAndRow(LazyTensorTape x) {
        x.leaf(2, 4, 1, 0);
        x.expand(0, 0, 4);
        x.transpose(0, 0, 1);
    }

    private static void elementLimit(String what, int size, Twins.Scene sources, Twins.MakingCall call) {
        LazyTensorTape x = new LazyTensorTape();
        sources.set(x);
        takeElements(x, 320 - size);
        Check.due("live before a " + what, x.live(), 320 - size);
        Check.due(what + " that makes 320 is given a handle", call.on(x) >= 0, true);
        Check.due("live after it", x.live(), 320);
        Twins.Scene oneMore = y -> {
            sources.set(y);
            takeElements(y, 321 - size);
        };
        Twins.refuseToMake(what + " that would make 321", oneMore, call);
    }

    /** Makes leaves, the great ones first, until there are so many elements. */
    private static void takeElements(LazyTensorTape x, int wanted) {
        int missing = wanted - x.live();
        while (missing > 0) {
            int rank = missing >= 64 ? 3 : missing >= 16 ? 2 : missing >= 4 ? 1 : 0;
            Check.due("room for rank " + rank, x.leaf(rank, 4, 4, 4) >= 0, true);
            missing -= 1 << 2 * rank;
        }
    }

    /** "exist" in the limits is what exists, with a handle or without one. */
    private static void limitsCountWhatIsNeeded() {
        LazyTensorTape x = new LazyTensorTape();
        for (int n = 0; n < 5; n++) {
            x.leaf(3, 4, 4, 3);
        }
        x.leaf(3, 4, 4, 3);
        int view = x.slice(5, 0, 0, Check.code(1, 0));
        x.drop(5);
        Check.due("live", x.live(), 288);
        Check.due("36 elements while a view needs 48", x.leaf(3, 3, 3, 4), -1);
        int result = x.fold(view, 0);
        x.drop(view);
        Check.due("live", x.live(), 300);
        Check.due("24 elements while a result needs 48", x.leaf(3, 2, 3, 4), -1);
        x.drop(result);
        Check.due("live", x.live(), 240);
        Check.due("64 elements when nothing needs them", x.leaf(3, 4, 4, 4), 5);
        Check.due("16 elements then", x.leaf(2, 4, 4, 0), 6);
        Check.due("and no more", x.leaf(0, 0, 0, 0), -1);
    }

    /** A tensor that is not needed any more counts for no limit: a chain of 32 ends with its last handle. */
    private static void limitsCountNothingThatIsGone() {
        LazyTensorTape x = new LazyTensorTape();
        takeTensors(x, 32);
        Check.due("a 33rd", x.leaf(0, 0, 0, 0), -1);
        x.drop(1);
        Check.due("live of the leaf alone", x.live(), 1);
        for (int h = 1; h < 24; h++) {
            Check.due("a new leaf", x.leaf(0, 0, 0, 0), h);
        }
        Check.due("live", x.live(), 24);
        for (int h = 0; h < 24; h++) {
            x.drop(h);
        }
        Check.due("live of nothing", x.live(), 0);
        for (int h = 0; h < 5; h++) {
            Check.due("64 elements", x.leaf(3, 4, 4, 4), h);
        }
    }
}
