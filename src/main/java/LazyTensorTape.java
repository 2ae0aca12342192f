/**
 * A small tensor engine over wrapping ints.
 *
 * A tensor with its own elements lives in a slot. Everything that shows elements (a handle, or what a
 * result was made from) is a window onto one slot: a rank, a dimension and a stride for each axis, and the
 * place of the first element. A view of a view is a window onto the same slot, so views need no slot.
 */
public final class LazyTensorTape {
    private static final int HANDLES = 24;
    private static final int SLOTS = 32;
    private static final int MOST_ELEMENTS = 320;
    private static final int AXES = 3;
    private static final int MOST_DIMENSION = 4;
    /** The elements of the greatest tensor: every slot has room for that many. */
    private static final int ROOM = 64;
    private static final int PLACES = 2048;
    private static final int WINDOWS = 88;
    private static final int WINDOW_AXES = 264;

    private static final int SUM = 0;
    private static final int DIFFERENCE = 1;
    private static final int PRODUCT = 2;
    /** The first source alone: fold and reshape. */
    private static final int COPY = 3;
    private static final int LEAF = 4;

    private final boolean[] handleTaken = new boolean[HANDLES];
    private final boolean[] handleIsView = new boolean[HANDLES];

    /* Windows 0..23 are those of the handles; each slot has two more for its sources. */
    private final int[] windowRank = new int[WINDOWS];
    private final int[] windowSlot = new int[WINDOWS];
    private final int[] windowStart = new int[WINDOWS];
    /* Axes beyond the rank have dimension 1 and stride 0, so that loops may run over all three. */
    private final int[] windowDimension = new int[WINDOW_AXES];
    private final int[] windowStride = new int[WINDOW_AXES];

    /* A slot is free if its size is 0. Element i of a result is the sum of its terms i * n .. i * n + n - 1. */
    private final int[] slotSize = new int[SLOTS];
    private final int[] slotKind = new int[SLOTS];
    private final int[] slotTerms = new int[SLOTS];
    private final boolean[] slotNeeded = new boolean[SLOTS];
    /* The taken slots from the oldest to the newest: a result always comes after its sources. */
    private final int[] slotsByAge = new int[SLOTS];
    private int slotsTaken = 0;
    private int elementsTaken = 0;

    private final int[] values = new int[PLACES];
    private final int[] derivatives = new int[PLACES];
    private final int[] firstPlaces = new int[ROOM];
    private final int[] secondPlaces = new int[ROOM];
    private final int[] assigned = new int[ROOM];

    private final int[] slopes = new int[ROOM];
    private int slopeCount = 0;

    public LazyTensorTape() {
    }

    public int leaf(int rank, int d0, int d1, int d2) {
        if (rank < 0 || rank > AXES) {
            return -1;
        }
        int first = rank > 0 ? d0 : 1;
        int second = rank > 1 ? d1 : 1;
        int third = rank > 2 ? d2 : 1;
        if (!isDimension(first) || !isDimension(second) || !isDimension(third)) {
            return -1;
        }
        int packed = rank;
        packed += rank > 0 ? packedDimension(0, first) : 0;
        packed += rank > 1 ? packedDimension(1, second) : 0;
        packed += rank > 2 ? packedDimension(2, third) : 0;
        int made = makeTensor(LEAF, 1, packed);
        if (made >= 0) {
            clearSlot(windowSlot[made]);
        }
        return made;
    }

    public int transpose(int h, int a, int b) {
        if (!hasAxis(h, a) || !hasAxis(h, b)) {
            return -1;
        }
        int made = makeView(h);
        if (made >= 0) {
            copyAxis(h, a, made, b);
            copyAxis(h, b, made, a);
        }
        return made;
    }

    public int slice(int h, int axis, int from, int code) {
        if (!hasAxis(h, axis) || code < 8 || code > 39) {
            return -1;
        }
        int count = code >> 3;
        int step = (code & 7) - 4;
        int dimension = windowDimension[h * AXES + axis];
        if (from < 0 || from >= dimension) {
            return -1;
        }
        int last = from + (count - 1) * step;
        if (last < 0 || last >= dimension) {
            return -1;
        }
        int made = makeView(h);
        if (made >= 0) {
            int stride = windowStride[h * AXES + axis];
            windowStart[made] += from * stride;
            // A stride that is never walked would grow from slice to slice.
            setAxis(made, axis, count, count > 1 ? stride * step : 0);
        }
        return made;
    }

    public int expand(int h, int axis, int d) {
        if (!isHandle(h) || !isDimension(d)) {
            return -1;
        }
        int rank = windowRank[h];
        if (rank >= AXES || axis < 0 || axis > rank) {
            return -1;
        }
        int made = makeView(h);
        if (made >= 0) {
            windowRank[made] = rank + 1;
            for (int later = axis; later < rank; later++) {
                copyAxis(h, later, made, later + 1);
            }
            setAxis(made, axis, d, 0);
        }
        return made;
    }

    public int reshape(int h, int packed) {
        if (!isHandle(h) || !isShape(packed)) {
            return -1;
        }
        int held = windowSize(h);
        int asked = shapeSize(packed);
        if (held != asked) {
            return -1;
        }
        int made = makeTensor(COPY, 1, packed);
        if (made >= 0) {
            int source = firstSource(windowSlot[made]);
            copyWindow(h, source);
            copyWindow(h, source + 1);
        }
        return made;
    }

    public int combine(int op, int h, int k) {
        if (op < SUM || op > PRODUCT || !isHandle(h) || !isHandle(k)) {
            return -1;
        }
        int packed = commonShape(h, k);
        if (packed < 0) {
            return -1;
        }
        int made = makeTensor(op, 1, packed);
        if (made >= 0) {
            int source = firstSource(windowSlot[made]);
            spreadWindow(h, source, made);
            spreadWindow(k, source + 1, made);
        }
        return made;
    }

    public int fold(int h, int axis) {
        if (!hasAxis(h, axis)) {
            return -1;
        }
        int rank = windowRank[h];
        int packed = rank - 1;
        for (int kept = 0; kept < rank - 1; kept++) {
            int old = kept < axis ? kept : kept + 1;
            packed += packedDimension(kept, windowDimension[h * AXES + old]);
        }
        int made = makeTensor(COPY, windowDimension[h * AXES + axis], packed);
        if (made >= 0) {
            int source = firstSource(windowSlot[made]);
            moveAxisLast(h, axis, source);
            copyWindow(source, source + 1);
        }
        return made;
    }

    public int multiply(int h, int k) {
        if (!isHandle(h) || !isHandle(k) || windowRank[h] != 2 || windowRank[k] != 2) {
            return -1;
        }
        int rows = windowDimension[h * AXES];
        int inner = windowDimension[h * AXES + 1];
        int columns = windowDimension[k * AXES + 1];
        if (windowDimension[k * AXES] != inner) {
            return -1;
        }
        int packed = 2 + packedDimension(0, rows) + packedDimension(1, columns);
        int made = makeTensor(PRODUCT, inner, packed);
        if (made >= 0) {
            // Both sources are shown as rows x columns x inner, so that the terms of an element stand together.
            int source = firstSource(windowSlot[made]);
            startWindow(source, h, AXES);
            copyAxis(h, 0, source, 0);
            setAxis(source, 1, columns, 0);
            copyAxis(h, 1, source, 2);
            startWindow(source + 1, k, AXES);
            setAxis(source + 1, 0, rows, 0);
            copyAxis(k, 1, source + 1, 1);
            copyAxis(k, 0, source + 1, 2);
        }
        return made;
    }

    public boolean drop(int h) {
        if (!isHandle(h)) {
            return false;
        }
        handleTaken[h] = false;
        markNeededSlots();
        freeOtherSlots();
        return true;
    }

    public boolean put(int h, int i, int v) {
        if (!hasElement(h, i) || slotKind[windowSlot[h]] != LEAF) {
            return false;
        }
        listPlaces(h, firstPlaces);
        values[firstPlaces[i]] = v;
        return true;
    }

    public boolean assign(int h, int k) {
        if (!isLeaf(h) || !isHandle(k)) {
            return false;
        }
        int wanted = packedShape(h);
        int shown = packedShape(k);
        if (wanted != shown) {
            return false;
        }
        computeResults();
        int count = listPlaces(k, firstPlaces);
        // Tensor k may show elements of h, so all are read before one is set.
        for (int i = 0; i < count; i++) {
            assigned[i] = values[firstPlaces[i]];
        }
        int start = windowStart[h];
        for (int i = 0; i < count; i++) {
            values[start + i] = assigned[i];
        }
        return true;
    }

    public int shape(int h) {
        return isHandle(h) ? packedShape(h) : -1;
    }

    public int at(int h, int i) {
        if (!hasElement(h, i)) {
            return 0;
        }
        computeResults();
        listPlaces(h, firstPlaces);
        return values[firstPlaces[i]];
    }

    public boolean gradient(int h, int k) {
        if (!isHandle(h) || !isLeaf(k)) {
            return false;
        }
        computeResults();
        startDerivatives(h);
        for (int age = slotsTaken - 1; age >= 0; age--) {
            int slot = slotsByAge[age];
            if (slotKind[slot] != LEAF) {
                passDerivatives(slot);
            }
        }
        int count = windowSize(k);
        int start = windowStart[k];
        for (int i = 0; i < count; i++) {
            slopes[i] = derivatives[start + i];
        }
        slopeCount = count;
        return true;
    }

    public int slope(int i) {
        return i >= 0 && i < slopeCount ? slopes[i] : 0;
    }

    public int live() {
        return elementsTaken;
    }

    private boolean isHandle(int h) {
        return h >= 0 && h < HANDLES && handleTaken[h];
    }

    private boolean isLeaf(int h) {
        return isHandle(h) && !handleIsView[h] && slotKind[windowSlot[h]] == LEAF;
    }

    private boolean hasAxis(int h, int axis) {
        return isHandle(h) && axis >= 0 && axis < windowRank[h];
    }

    private boolean hasElement(int h, int i) {
        return isHandle(h) && i >= 0 && i < windowSize(h);
    }

    private boolean isDimension(int d) {
        return d >= 1 && d <= MOST_DIMENSION;
    }

    private int packedDimension(int axis, int dimension) {
        return dimension << (3 + 3 * axis);
    }

    private int dimensionIn(int packed, int axis) {
        return packed >> (3 + 3 * axis) & 7;
    }

    private boolean isShape(int packed) {
        if (packed < 0 || packed > 4095) {
            return false;
        }
        int rank = packed & 7;
        if (rank > AXES) {
            return false;
        }
        for (int axis = 0; axis < AXES; axis++) {
            int dimension = dimensionIn(packed, axis);
            boolean fits = axis < rank ? isDimension(dimension) : dimension == 0;
            if (!fits) {
                return false;
            }
        }
        return true;
    }

    private int shapeSize(int packed) {
        int rank = packed & 7;
        int size = 1;
        for (int axis = 0; axis < rank; axis++) {
            size *= dimensionIn(packed, axis);
        }
        return size;
    }

    private int packedShape(int window) {
        int rank = windowRank[window];
        int packed = rank;
        for (int axis = 0; axis < rank; axis++) {
            packed += packedDimension(axis, windowDimension[window * AXES + axis]);
        }
        return packed;
    }

    /** The packed shape of h and k combined, or -1 if they do not fit. */
    private int commonShape(int h, int k) {
        int rank = windowRank[h] > windowRank[k] ? windowRank[h] : windowRank[k];
        int packed = rank;
        for (int axis = 0; axis < rank; axis++) {
            int one = dimensionFromLast(h, rank - axis);
            int other = dimensionFromLast(k, rank - axis);
            if (one != other && one != 1 && other != 1) {
                return -1;
            }
            packed += packedDimension(axis, one > other ? one : other);
        }
        return packed;
    }

    /** The last dimension for back = 1, the one before it for back = 2, ..; a missing one counts as 1. */
    private int dimensionFromLast(int window, int back) {
        int axis = windowRank[window] - back;
        return axis >= 0 ? windowDimension[window * AXES + axis] : 1;
    }

    private int windowSize(int window) {
        int axes = window * AXES;
        return windowDimension[axes] * windowDimension[axes + 1] * windowDimension[axes + 2];
    }

    private void setAxis(int window, int axis, int dimension, int stride) {
        windowDimension[window * AXES + axis] = dimension;
        windowStride[window * AXES + axis] = stride;
    }

    private void copyAxis(int from, int fromAxis, int to, int toAxis) {
        windowDimension[to * AXES + toAxis] = windowDimension[from * AXES + fromAxis];
        windowStride[to * AXES + toAxis] = windowStride[from * AXES + fromAxis];
    }

    /** A window of that rank onto the first element that another one shows; its axes are still to be set. */
    private void startWindow(int window, int shown, int rank) {
        windowRank[window] = rank;
        windowSlot[window] = windowSlot[shown];
        windowStart[window] = windowStart[shown];
        for (int axis = 0; axis < AXES; axis++) {
            setAxis(window, axis, 1, 0);
        }
    }

    private void copyWindow(int from, int to) {
        startWindow(to, from, windowRank[from]);
        for (int axis = 0; axis < AXES; axis++) {
            copyAxis(from, axis, to, axis);
        }
    }

    /** Window to shows what window from shows, in the shape of window like: the same along what from lacks. */
    private void spreadWindow(int from, int to, int like) {
        int rank = windowRank[like];
        int missing = rank - windowRank[from];
        startWindow(to, from, rank);
        for (int axis = 0; axis < rank; axis++) {
            int dimension = windowDimension[like * AXES + axis];
            int old = from * AXES + axis - missing;
            boolean walks = axis >= missing && windowDimension[old] == dimension;
            setAxis(to, axis, dimension, walks ? windowStride[old] : 0);
        }
    }

    private void moveAxisLast(int from, int axis, int to) {
        copyWindow(from, to);
        int last = windowRank[from] - 1;
        for (int later = axis; later < last; later++) {
            copyAxis(from, later + 1, to, later);
        }
        copyAxis(from, axis, to, last);
    }

    /** Writes where in values the elements of a window lie, row by row, and answers how many there are. */
    private int listPlaces(int window, int[] places) {
        int axes = window * AXES;
        int d0 = windowDimension[axes];
        int d1 = windowDimension[axes + 1];
        int d2 = windowDimension[axes + 2];
        int count = 0;
        for (int x = 0; x < d0; x++) {
            for (int y = 0; y < d1; y++) {
                int row = windowStart[window] + x * windowStride[axes] + y * windowStride[axes + 1];
                for (int z = 0; z < d2; z++) {
                    places[count] = row + z * windowStride[axes + 2];
                    count++;
                }
            }
        }
        return count;
    }

    private int freeHandle() {
        for (int h = 0; h < HANDLES; h++) {
            if (!handleTaken[h]) {
                return h;
            }
        }
        return -1;
    }

    private int freeSlot() {
        for (int slot = 0; slot < SLOTS; slot++) {
            if (slotSize[slot] == 0) {
                return slot;
            }
        }
        return -1;
    }

    /** A new handle that shows the same as h, or -1. */
    private int makeView(int h) {
        int made = freeHandle();
        if (made >= 0) {
            handleTaken[made] = true;
            handleIsView[made] = true;
            copyWindow(h, made);
        }
        return made;
    }

    /** A new handle of a tensor with its own elements, whose sources are still to be set; or -1. */
    private int makeTensor(int kind, int terms, int packed) {
        int size = shapeSize(packed);
        int made = freeHandle();
        int slot = freeSlot();
        if (made < 0 || slot < 0 || elementsTaken + size > MOST_ELEMENTS) {
            return -1;
        }
        slotSize[slot] = size;
        slotKind[slot] = kind;
        slotTerms[slot] = terms;
        slotsByAge[slotsTaken] = slot;
        slotsTaken++;
        elementsTaken += size;
        handleTaken[made] = true;
        handleIsView[made] = false;
        showSlot(made, slot, packed);
        return made;
    }

    /** Makes window show all elements of a slot, row by row. */
    private void showSlot(int window, int slot, int packed) {
        int rank = packed & 7;
        windowRank[window] = rank;
        windowSlot[window] = slot;
        windowStart[window] = slot * ROOM;
        int stride = 1;
        for (int axis = AXES - 1; axis >= 0; axis--) {
            if (axis < rank) {
                int dimension = dimensionIn(packed, axis);
                setAxis(window, axis, dimension, stride);
                stride *= dimension;
            } else {
                setAxis(window, axis, 1, 0);
            }
        }
    }

    private void clearSlot(int slot) {
        for (int i = 0; i < ROOM; i++) {
            values[slot * ROOM + i] = 0;
        }
    }

    /** The window of a slot's first source; that of the second follows it. */
    private int firstSource(int slot) {
        return HANDLES + 2 * slot;
    }

    private void markNeededSlots() {
        for (int slot = 0; slot < SLOTS; slot++) {
            slotNeeded[slot] = false;
        }
        for (int h = 0; h < HANDLES; h++) {
            if (handleTaken[h]) {
                slotNeeded[windowSlot[h]] = true;
            }
        }
        for (int age = slotsTaken - 1; age >= 0; age--) {
            int slot = slotsByAge[age];
            if (slotNeeded[slot] && slotKind[slot] != LEAF) {
                int source = firstSource(slot);
                slotNeeded[windowSlot[source]] = true;
                slotNeeded[windowSlot[source + 1]] = true;
            }
        }
    }

    private void freeOtherSlots() {
        int kept = 0;
        for (int age = 0; age < slotsTaken; age++) {
            int slot = slotsByAge[age];
            if (slotNeeded[slot]) {
                slotsByAge[kept] = slot;
                kept++;
            } else {
                elementsTaken -= slotSize[slot];
                slotSize[slot] = 0;
            }
        }
        slotsTaken = kept;
    }

    private void computeResults() {
        for (int age = 0; age < slotsTaken; age++) {
            int slot = slotsByAge[age];
            if (slotKind[slot] != LEAF) {
                computeSlot(slot);
            }
        }
    }

    private void computeSlot(int slot) {
        int source = firstSource(slot);
        listPlaces(source, firstPlaces);
        listPlaces(source + 1, secondPlaces);
        int size = slotSize[slot];
        int terms = slotTerms[slot];
        int term = 0;
        for (int i = 0; i < size; i++) {
            int sum = 0;
            for (int t = 0; t < terms; t++) {
                sum += termValue(slotKind[slot], values[firstPlaces[term]], values[secondPlaces[term]]);
                term++;
            }
            values[slot * ROOM + i] = sum;
        }
    }

    private int termValue(int kind, int first, int second) {
        switch (kind) {
            case SUM:
                return first + second;
            case DIFFERENCE:
                return first - second;
            case PRODUCT:
                return first * second;
            default:
                return first;
        }
    }

    /** Counts 1 for each time that tensor h shows an element, for its sum has each with the factor 1. */
    private void startDerivatives(int h) {
        for (int place = 0; place < PLACES; place++) {
            derivatives[place] = 0;
        }
        int count = listPlaces(h, firstPlaces);
        for (int i = 0; i < count; i++) {
            derivatives[firstPlaces[i]]++;
        }
    }

    /** Newer slots come first, so a result's own derivatives are complete before they are passed to its sources. */
    private void passDerivatives(int slot) {
        int source = firstSource(slot);
        listPlaces(source, firstPlaces);
        listPlaces(source + 1, secondPlaces);
        int size = slotSize[slot];
        int terms = slotTerms[slot];
        int term = 0;
        for (int i = 0; i < size; i++) {
            int owed = derivatives[slot * ROOM + i];
            for (int t = 0; t < terms; t++) {
                passTerm(slotKind[slot], owed, firstPlaces[term], secondPlaces[term]);
                term++;
            }
        }
    }

    private void passTerm(int kind, int owed, int first, int second) {
        switch (kind) {
            case SUM:
                derivatives[first] += owed;
                derivatives[second] += owed;
                break;
            case DIFFERENCE:
                derivatives[first] += owed;
                derivatives[second] -= owed;
                break;
            case PRODUCT:
                derivatives[first] += owed * values[second];
                derivatives[second] += owed * values[first];
                break;
            default:
                derivatives[first] += owed;
                break;
        }
    }
}
