import java.util.ArrayList;
import java.util.Arrays;
import java.util.IdentityHashMap;
import java.util.List;
import java.util.Map;

/**
 * The document's words once more, in another way than the class: every tensor, views too, is an object that
 * knows what it was made from; derivatives go forward from one element of the leaf.
 */
final class Model {
    /** For each element of a tensor, the terms that are summed: pairs of element numbers in the parents. */
    private static final class Node {
        final char kind;
        final int[] dimensions;
        final Node[] parents;
        final int[][] first;
        final int[][] second;
        final int[] elements;

        Node(char kind, int[] dimensions, Node... parents) {
            this.kind = kind;
            this.dimensions = dimensions;
            this.parents = parents;
            int size = size(dimensions);
            this.first = new int[size][0];
            this.second = new int[size][0];
            this.elements = new int[kind == 'l' ? size : 0];
        }

        boolean isView() {
            return kind == 'v';
        }

        int size() {
            return size(dimensions);
        }

        static int size(int[] dimensions) {
            int size = 1;
            for (int d : dimensions) {
                size *= d;
            }
            return size;
        }
    }

    /** How often a call was refused for want of handles, tensors or elements alone, in all objects. */
    static final int[] full = new int[3];

    private final Node[] handles = new Node[24];
    private int[] slopes = new int[0];

    int leaf(int rank, int d0, int d1, int d2) {
        if (rank < 0 || rank > 3) {
            return -1;
        }
        int[] dimensions = Arrays.copyOf(new int[] {d0, d1, d2}, rank);
        for (int d : dimensions) {
            if (d < 1 || d > 4) {
                return -1;
            }
        }
        return add(new Node('l', dimensions));
    }

    int transpose(int h, int a, int b) {
        Node from = node(h);
        if (from == null || outside(a, from.dimensions.length) || outside(b, from.dimensions.length)) {
            return -1;
        }
        Node made = new Node('v', swapped(from.dimensions, a, b), from);
        for (int i = 0; i < made.size(); i++) {
            made.first[i] = new int[] {number(from.dimensions, swapped(indices(made.dimensions, i), a, b))};
        }
        return add(made);
    }

    int slice(int h, int axis, int from, int code) {
        Node shown = node(h);
        if (shown == null || outside(axis, shown.dimensions.length) || code < 8 || code > 39) {
            return -1;
        }
        int count = code / 8;
        int step = code % 8 - 4;
        for (int n = 0; n < count; n++) {
            long position = (long) from + (long) n * step;
            if (position < 0 || position >= shown.dimensions[axis]) {
                return -1;
            }
        }
        int[] dimensions = shown.dimensions.clone();
        dimensions[axis] = count;
        Node made = new Node('v', dimensions, shown);
        for (int i = 0; i < made.size(); i++) {
            int[] at = indices(dimensions, i);
            at[axis] = from + at[axis] * step;
            made.first[i] = new int[] {number(shown.dimensions, at)};
        }
        return add(made);
    }

    int expand(int h, int axis, int d) {
        Node shown = node(h);
        if (shown == null || shown.dimensions.length >= 3 || outside(axis, shown.dimensions.length + 1)
            || d < 1 || d > 4) {
            return -1;
        }
        Node made = new Node('v', with(shown.dimensions, axis, d), shown);
        for (int i = 0; i < made.size(); i++) {
            made.first[i] = new int[] {number(shown.dimensions, without(indices(made.dimensions, i), axis))};
        }
        return add(made);
    }

    int reshape(int h, int packed) {
        Node shown = node(h);
        if (shown == null || packed < 0 || packed > 4095 || packed % 8 > 3) {
            return -1;
        }
        int rank = packed % 8;
        int[] all = {packed / 8 % 8, packed / 64 % 8, packed / 512};
        for (int axis = 0; axis < 3; axis++) {
            if (axis < rank ? all[axis] < 1 || all[axis] > 4 : all[axis] != 0) {
                return -1;
            }
        }
        int[] dimensions = Arrays.copyOf(all, rank);
        if (Node.size(dimensions) != shown.size()) {
            return -1;
        }
        Node made = new Node('r', dimensions, shown);
        for (int i = 0; i < made.size(); i++) {
            made.first[i] = new int[] {i};
        }
        return add(made);
    }

    int combine(int op, int h, int k) {
        Node one = node(h);
        Node other = node(k);
        if (one == null || other == null || op < 0 || op > 2) {
            return -1;
        }
        int rank = Math.max(one.dimensions.length, other.dimensions.length);
        int[] left = padded(one.dimensions, rank);
        int[] right = padded(other.dimensions, rank);
        int[] dimensions = new int[rank];
        for (int axis = 0; axis < rank; axis++) {
            if (left[axis] != right[axis] && left[axis] != 1 && right[axis] != 1) {
                return -1;
            }
            dimensions[axis] = Math.max(left[axis], right[axis]);
        }
        Node made = new Node("+-*".charAt(op), dimensions, one, other);
        for (int i = 0; i < made.size(); i++) {
            int[] at = indices(dimensions, i);
            made.first[i] = new int[] {number(left, limited(at, left))};
            made.second[i] = new int[] {number(right, limited(at, right))};
        }
        return add(made);
    }

    int fold(int h, int axis) {
        Node shown = node(h);
        if (shown == null || outside(axis, shown.dimensions.length)) {
            return -1;
        }
        Node made = new Node('f', without(shown.dimensions, axis), shown);
        for (int i = 0; i < made.size(); i++) {
            made.first[i] = new int[shown.dimensions[axis]];
            for (int n = 0; n < shown.dimensions[axis]; n++) {
                made.first[i][n] = number(shown.dimensions, with(indices(made.dimensions, i), axis, n));
            }
        }
        return add(made);
    }

    int multiply(int h, int k) {
        Node one = node(h);
        Node other = node(k);
        if (one == null || other == null || one.dimensions.length != 2 || other.dimensions.length != 2
            || one.dimensions[1] != other.dimensions[0]) {
            return -1;
        }
        int rows = one.dimensions[0];
        int inner = one.dimensions[1];
        int columns = other.dimensions[1];
        Node made = new Node('*', new int[] {rows, columns}, one, other);
        for (int i = 0; i < made.size(); i++) {
            made.first[i] = new int[inner];
            made.second[i] = new int[inner];
            for (int n = 0; n < inner; n++) {
                made.first[i][n] = i / columns * inner + n;
                made.second[i][n] = n * columns + i % columns;
            }
        }
        return add(made);
    }

    boolean drop(int h) {
        boolean had = node(h) != null;
        if (had) {
            handles[h] = null;
        }
        return had;
    }

    boolean put(int h, int i, int v) {
        Node target = node(h);
        if (target == null || outside(i, target.size())) {
            return false;
        }
        int place = i;
        while (target.isView()) {
            place = target.first[place][0];
            target = target.parents[0];
        }
        if (target.kind == 'l') {
            target.elements[place] = v;
        }
        return target.kind == 'l';
    }

    boolean assign(int h, int k) {
        Node target = node(h);
        Node shown = node(k);
        if (target == null || target.kind != 'l' || shown == null
            || !Arrays.equals(target.dimensions, shown.dimensions)) {
            return false;
        }
        int[] now = values(shown, new IdentityHashMap<>()).clone();
        System.arraycopy(now, 0, target.elements, 0, now.length);
        return true;
    }

    int shape(int h) {
        return node(h) == null ? -1 : Check.packed(node(h).dimensions);
    }

    int size(int h) {
        return node(h) == null ? 0 : node(h).size();
    }

    boolean isLeaf(int h) {
        return node(h) != null && node(h).kind == 'l';
    }

    int at(int h, int i) {
        Node shown = node(h);
        return shown == null || outside(i, shown.size()) ? 0 : values(shown, new IdentityHashMap<>())[i];
    }

    boolean gradient(int h, int k) {
        Node of = node(h);
        Node by = node(k);
        if (of == null || by == null || by.kind != 'l') {
            return false;
        }
        Map<Node, int[]> values = new IdentityHashMap<>();
        values(of, values);
        slopes = new int[by.size()];
        for (int i = 0; i < slopes.length; i++) {
            for (int tangent : tangents(of, by, i, values, new IdentityHashMap<>())) {
                slopes[i] += tangent;
            }
        }
        return true;
    }

    int slope(int i) {
        return outside(i, slopes.length) ? 0 : slopes[i];
    }

    int live() {
        int live = 0;
        for (Node node : existing()) {
            live += node.isView() ? 0 : node.size();
        }
        return live;
    }

    private int add(Node made) {
        int h = 0;
        while (h < 24 && handles[h] != null) {
            h++;
        }
        if (h == 24) {
            full[0]++;
            return -1;
        }
        if (!made.isView()) {
            int own = 0;
            for (Node node : existing()) {
                own += node.isView() ? 0 : 1;
            }
            if (own == 32) {
                full[1]++;
                return -1;
            }
            if (live() + made.size() > 320) {
                full[2]++;
                return -1;
            }
        }
        handles[h] = made;
        return h;
    }

    private List<Node> existing() {
        Map<Node, Boolean> seen = new IdentityHashMap<>();
        List<Node> found = new ArrayList<>();
        for (Node node : handles) {
            if (node != null && seen.put(node, true) == null) {
                found.add(node);
            }
        }
        for (int n = 0; n < found.size(); n++) {
            for (Node parent : found.get(n).parents) {
                if (seen.put(parent, true) == null) {
                    found.add(parent);
                }
            }
        }
        return found;
    }

    private static int[] values(Node node, Map<Node, int[]> known) {
        if (node.kind == 'l') {
            return node.elements;
        }
        int[] found = known.get(node);
        if (found != null) {
            return found;
        }
        int[] one = values(node.parents[0], known);
        int[] other = values(node.parents[node.parents.length - 1], known);
        found = new int[node.size()];
        for (int i = 0; i < found.length; i++) {
            for (int n = 0; n < node.first[i].length; n++) {
                int left = one[node.first[i][n]];
                int right = node.parents.length < 2 ? 0 : other[node.second[i][n]];
                found[i] += node.kind == '*' ? left * right : node.kind == '-' ? left - right : left + right;
            }
        }
        known.put(node, found);
        return found;
    }

    private static int[] tangents(Node node, Node by, int e, Map<Node, int[]> values, Map<Node, int[]> known) {
        int[] found = known.get(node);
        if (found != null) {
            return found;
        }
        found = new int[node.size()];
        if (node == by) {
            found[e] = 1;
        }
        if (node.kind != 'l') {
            Node left = node.parents[0];
            Node right = node.parents[node.parents.length - 1];
            int[] one = tangents(left, by, e, values, known);
            int[] other = tangents(right, by, e, values, known);
            int[] oneValue = values(left, values);
            int[] otherValue = values(right, values);
            for (int i = 0; i < found.length; i++) {
                for (int n = 0; n < node.first[i].length; n++) {
                    int p = node.first[i][n];
                    int q = node.parents.length < 2 ? -1 : node.second[i][n];
                    switch (node.kind) {
                        case '*' -> found[i] += one[p] * otherValue[q] + oneValue[p] * other[q];
                        case '-' -> found[i] += one[p] - other[q];
                        case '+' -> found[i] += one[p] + other[q];
                        default -> found[i] += one[p];
                    }
                }
            }
        }
        known.put(node, found);
        return found;
    }

    private Node node(int h) {
        return outside(h, 24) ? null : handles[h];
    }

    private static boolean outside(int i, int bound) {
        return i < 0 || i >= bound;
    }

    private static int[] indices(int[] dimensions, int number) {
        int[] at = new int[dimensions.length];
        for (int axis = dimensions.length - 1; axis >= 0; axis--) {
            at[axis] = number % dimensions[axis];
            number /= dimensions[axis];
        }
        return at;
    }

    private static int number(int[] dimensions, int[] at) {
        int number = 0;
        for (int axis = 0; axis < dimensions.length; axis++) {
            number = number * dimensions[axis] + at[axis];
        }
        return number;
    }

    private static int[] swapped(int[] list, int a, int b) {
        int[] made = list.clone();
        made[a] = list[b];
        made[b] = list[a];
        return made;
    }

    private static int[] with(int[] list, int axis, int inserted) {
        int[] made = new int[list.length + 1];
        System.arraycopy(list, 0, made, 0, axis);
        made[axis] = inserted;
        System.arraycopy(list, axis, made, axis + 1, list.length - axis);
        return made;
    }

    private static int[] without(int[] list, int axis) {
        int[] made = new int[list.length - 1];
        System.arraycopy(list, 0, made, 0, axis);
        System.arraycopy(list, axis + 1, made, axis, made.length - axis);
        return made;
    }

    private static int[] padded(int[] dimensions, int rank) {
        int[] made = new int[rank];
        Arrays.fill(made, 1);
        System.arraycopy(dimensions, 0, made, rank - dimensions.length, dimensions.length);
        return made;
    }

    private static int[] limited(int[] at, int[] dimensions) {
        int[] made = at.clone();
        for (int axis = 0; axis < made.length; axis++) {
            made[axis] = Math.min(made[axis], dimensions[axis] - 1);
        }
        return made;
    }
}
