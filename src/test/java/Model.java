import java.util.ArrayList;
import java.util.List;

/**
 * The document once more, for tests: it refuses as the document says, but finds each answer in
 * another way than the class does (union-find, determinants, deletion and contraction, sums of
 * other answers), so that the same slip is not made twice.
 */
final class Model {
    private static final int NODES = 5;
    private static final int MOST_EDGES = 12;

    private static final class Edge {
        final int a;
        final int b;
        int share;
        int how = 2;

        Edge(int a, int b, int share) {
            this.a = a;
            this.b = b;
            this.share = share;
        }
    }

    private final List<Edge> edges = new ArrayList<>();

    int size() {
        return edges.size();
    }

    int link(int a, int b, int share) {
        if (a < 0 || a > 4 || b < 0 || b > 4 || a == b) {
            return -1;
        }
        if (share < 0 || share > 16) {
            return -2;
        }
        if (edges.size() == MOST_EDGES) {
            return -3;
        }
        edges.add(new Edge(a, b, share));
        return edges.size() - 1;
    }

    int unlink(int i) {
        if (i < 0 || i >= edges.size()) {
            return -1;
        }
        edges.remove(i);
        return edges.size();
    }

    int share(int i, int share) {
        if (i < 0 || i >= edges.size()) {
            return -1;
        }
        if (share < 0 || share > 16) {
            return -2;
        }
        int before = edges.get(i).share;
        edges.get(i).share = share;
        return before;
    }

    int hold(int i, int how) {
        if (i < 0 || i >= edges.size()) {
            return -1;
        }
        if (how != 0 && how != 1 && how != 2) {
            return -2;
        }
        int before = edges.get(i).how;
        edges.get(i).how = how;
        return before;
    }

    int clear() {
        int before = edges.size();
        edges.clear();
        return before;
    }

    long weight(int mask) {
        if (mask < 0 || mask > 31) {
            return -1;
        }
        long sum = 0;
        for (int state : allStates()) {
            sum += joined(mask, state) ? weightOf(state) : 0;
        }
        return sum;
    }

    int states(int mask, int k) {
        if (mask < 0 || mask > 31) {
            return -1;
        }
        int found = 0;
        for (int state : allStates()) {
            found += joined(mask, state) && Integer.bitCount(state) == k ? 1 : 0;
        }
        return found;
    }

    long parts(int k) {
        long sum = 0;
        for (int state : allStates()) {
            sum += partCount(state) == k ? weightOf(state) : 0;
        }
        return sum;
    }

    /** The sum can be taken over the pairs first. */
    long pairs() {
        long sum = 0;
        for (int mask = 0; mask < 32; mask++) {
            sum += Integer.bitCount(mask) == 2 ? weight(mask) : 0;
        }
        return sum;
    }

    /** An edge that is put up never parts nodes, so the sum is a difference of two weights. */
    long pivotal(int mask, int i) {
        if (mask < 0 || mask > 31) {
            return -1;
        }
        if (i < 0 || i >= edges.size()) {
            return -2;
        }
        Edge edge = edges.get(i);
        int before = edge.how;
        edge.how = 1;
        long withIt = weight(mask);
        edge.how = 0;
        long withoutIt = weight(mask);
        edge.how = before;
        return (withIt - withoutIt) / 16;
    }

    long worst(int mask) {
        if (mask < 0 || mask > 31) {
            return -1;
        }
        long greatest = 0;
        for (int state : allStates()) {
            greatest = joined(mask, state) ? greatest : Math.max(greatest, weightOf(state));
        }
        return greatest;
    }

    int worstState(int mask) {
        if (mask < 0 || mask > 31) {
            return -1;
        }
        List<Integer> candidates = new ArrayList<>();
        for (int state : allStates()) {
            if (!joined(mask, state) && weightOf(state) > 0) {
                candidates.add(state);
            }
        }
        candidates.sort((s, t) -> weightOf(s) != weightOf(t)
                ? Long.compare(weightOf(t), weightOf(s)) : Integer.compare(s, t));
        return candidates.isEmpty() ? -2 : candidates.get(0);
    }

    /** The cuts are the disconnecting sets that have no other disconnecting set inside them. */
    int cuts(int mask, int k) {
        if (mask < 0 || mask > 31) {
            return -1;
        }
        int all = (1 << edges.size()) - 1;
        boolean[] disconnecting = new boolean[all + 1];
        for (int down = 0; down <= all; down++) {
            disconnecting[down] = !joined(mask, all & ~down);
        }
        int found = 0;
        for (int down = 0; down <= all; down++) {
            if (Integer.bitCount(down) == k && disconnecting[down]) {
                boolean least = true;
                for (int inside = down; inside != 0 && least; ) {
                    inside = (inside - 1) & down;
                    least = !disconnecting[inside];
                }
                found += least || down == 0 ? 1 : 0;
            }
        }
        return found;
    }

    /** Kirchhoff: a determinant of the degrees and neighbours of four of the nodes. */
    int trees() {
        double[][] m = new double[NODES][NODES];
        for (Edge e : edges) {
            m[e.a][e.a]++;
            m[e.b][e.b]++;
            m[e.a][e.b]--;
            m[e.b][e.a]--;
        }
        double determinant = 1;
        for (int c = 0; c < NODES - 1; c++) {
            int pivot = c;
            for (int r = c + 1; r < NODES - 1; r++) {
                pivot = Math.abs(m[r][c]) > Math.abs(m[pivot][c]) ? r : pivot;
            }
            if (Math.abs(m[pivot][c]) < 1e-9) {
                return 0;
            }
            double[] row = m[pivot];
            m[pivot] = m[c];
            m[c] = row;
            determinant *= pivot == c ? row[c] : -row[c];
            for (int r = c + 1; r < NODES - 1; r++) {
                double factor = m[r][c] / row[c];
                for (int d = c; d < NODES - 1; d++) {
                    m[r][d] -= factor * row[d];
                }
            }
        }
        return (int) Math.round(determinant);
    }

    int forests(int k) {
        int found = 0;
        for (int up = 0; up < 1 << edges.size(); up++) {
            found += Integer.bitCount(up) == k && k + partCount(up) == NODES ? 1 : 0;
        }
        return found;
    }

    int colourings(int q) {
        return q < 0 || q > 4 ? -1 : colourFrom(0, q, new int[NODES]);
    }

    private int colourFrom(int v, int q, int[] colours) {
        if (v == NODES) {
            return 1;
        }
        int found = 0;
        for (int colour = 0; colour < q; colour++) {
            colours[v] = colour;
            boolean fits = true;
            for (Edge e : edges) {
                fits &= Math.max(e.a, e.b) != v || colours[e.a] != colours[e.b];
            }
            found += fits ? colourFrom(v + 1, q, colours) : 0;
        }
        return found;
    }

    int polynomial(int x, int y) {
        if (x < -3 || x > 3 || y < -3 || y > 3) {
            return -1000000000;
        }
        List<int[]> pairs = new ArrayList<>();
        for (Edge e : edges) {
            pairs.add(new int[] {e.a, e.b});
        }
        return tutte(pairs, x + 1, y + 1);
    }

    /** Deletion and contraction: the asked sum is Tutte's polynomial at x + 1 and y + 1. */
    private static int tutte(List<int[]> pairs, int x, int y) {
        if (pairs.isEmpty()) {
            return 1;
        }
        int[] e = pairs.get(0);
        List<int[]> deleted = pairs.subList(1, pairs.size());
        if (e[0] == e[1]) {
            return y * tutte(deleted, x, y);
        }
        List<int[]> contracted = new ArrayList<>();
        int[] part = {0, 1, 2, 3, 4};
        for (int[] p : deleted) {
            contracted.add(new int[] {p[0] == e[1] ? e[0] : p[0], p[1] == e[1] ? e[0] : p[1]});
            merge(part, p[0], p[1]);
        }
        if (part[e[0]] != part[e[1]]) {
            return x * tutte(contracted, x, y);
        }
        return tutte(deleted, x, y) + tutte(contracted, x, y);
    }

    private List<Integer> allStates() {
        List<Integer> found = List.of(0);
        for (int i = 0; i < edges.size(); i++) {
            List<Integer> longer = new ArrayList<>();
            for (int state : found) {
                if (edges.get(i).how != 1) {
                    longer.add(state);
                }
                if (edges.get(i).how != 0) {
                    longer.add(state + (1 << i));
                }
            }
            found = longer;
        }
        return found;
    }

    private long weightOf(int state) {
        long product = 1L << 4 * (MOST_EDGES - edges.size());
        for (int i = 0; i < edges.size(); i++) {
            Edge e = edges.get(i);
            int free = (state & 1 << i) != 0 ? e.share : 16 - e.share;
            product *= e.how == 2 ? free : 16;
        }
        return product;
    }

    private int[] partsWith(int up) {
        int[] part = {0, 1, 2, 3, 4};
        for (int i = 0; i < edges.size(); i++) {
            if ((up & 1 << i) != 0) {
                merge(part, edges.get(i).a, edges.get(i).b);
            }
        }
        return part;
    }

    private static void merge(int[] part, int a, int b) {
        int from = part[a];
        int to = part[b];
        for (int v = 0; v < NODES; v++) {
            part[v] = part[v] == from ? to : part[v];
        }
    }

    private int partCount(int up) {
        int seen = 0;
        for (int part : partsWith(up)) {
            seen |= 1 << part;
        }
        return Integer.bitCount(seen);
    }

    private boolean joined(int mask, int up) {
        int[] part = partsWith(up);
        int seen = 0;
        for (int v = 0; v < NODES; v++) {
            seen |= (mask & 1 << v) != 0 ? 1 << part[v] : 0;
        }
        return Integer.bitCount(seen) <= 1;
    }
}
