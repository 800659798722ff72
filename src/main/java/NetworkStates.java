/**
 * A small network whose edges are up or down, and the exact weights and numbers of its states.
 *
 * Sets of nodes and sets of edges are bit masks throughout; a state is the set of its edges that
 * are up. Nothing is kept but the edges: every question goes through all sets of edges anew, of
 * which there are at most 4096.
 */
public final class NetworkStates {
    private static final int NODES = 5;
    private static final int ALL_NODES = 31;
    private static final int MOST_EDGES = 12;
    private static final int MOST_SHARE = 16;
    private static final int DOWN = 0;
    private static final int FREE = 2;
    private static final int NO_EDGE = -1;

    private static final int MOST_COLOURS = 4;
    private static final int COLOUR_BITS = 2;
    private static final int COLOUR_DIGIT = 3;
    private static final int ALL_COLOURINGS = 1024;

    private static final int MOST_BASE = 3;
    private static final int NO_POLYNOMIAL = -1000000000;

    private final int[] firstNodes = new int[MOST_EDGES];
    private final int[] secondNodes = new int[MOST_EDGES];
    private final int[] shares = new int[MOST_EDGES];
    private final int[] holds = new int[MOST_EDGES];
    private int edgeCount;

    public NetworkStates() {
        edgeCount = 0;
    }

    public int link(int a, int b, int share) {
        if (!isNode(a) || !isNode(b) || a == b) {
            return -1;
        }
        if (!isShare(share)) {
            return -2;
        }
        if (edgeCount >= MOST_EDGES) {
            return -3;
        }
        int added = edgeCount;
        firstNodes[added] = a;
        secondNodes[added] = b;
        shares[added] = share;
        holds[added] = FREE;
        edgeCount = added + 1;
        return added;
    }

    public int unlink(int i) {
        if (!isEdge(i)) {
            return -1;
        }
        for (int to = i; to < edgeCount - 1; to++) {
            firstNodes[to] = firstNodes[to + 1];
            secondNodes[to] = secondNodes[to + 1];
            shares[to] = shares[to + 1];
            holds[to] = holds[to + 1];
        }
        edgeCount--;
        return edgeCount;
    }

    public int share(int i, int share) {
        if (!isEdge(i)) {
            return -1;
        }
        if (!isShare(share)) {
            return -2;
        }
        int before = shares[i];
        shares[i] = share;
        return before;
    }

    public int hold(int i, int how) {
        if (!isEdge(i)) {
            return -1;
        }
        if (how < DOWN || how > FREE) {
            return -2;
        }
        int before = holds[i];
        holds[i] = how;
        return before;
    }

    public int clear() {
        int before = edgeCount;
        edgeCount = 0;
        return before;
    }

    public long weight(int mask) {
        if (!isMask(mask)) {
            return -1;
        }
        long sum = 0;
        for (int up = 0; up < (1 << edgeCount); up++) {
            if (isState(up, NO_EDGE) && connects(mask, up)) {
                sum += weightOf(up, NO_EDGE);
            }
        }
        return sum;
    }

    public int states(int mask, int k) {
        if (!isMask(mask)) {
            return -1;
        }
        int found = 0;
        for (int up = 0; up < (1 << edgeCount); up++) {
            if (sizeOf(up) == k && isState(up, NO_EDGE) && connects(mask, up)) {
                found++;
            }
        }
        return found;
    }

    public long parts(int k) {
        long sum = 0;
        for (int up = 0; up < (1 << edgeCount); up++) {
            if (isState(up, NO_EDGE) && partsOf(up) == k) {
                sum += weightOf(up, NO_EDGE);
            }
        }
        return sum;
    }

    public long pairs() {
        long sum = 0;
        for (int up = 0; up < (1 << edgeCount); up++) {
            if (isState(up, NO_EDGE)) {
                sum += weightOf(up, NO_EDGE) * pairsOf(up);
            }
        }
        return sum;
    }

    public long pivotal(int mask, int i) {
        if (!isMask(mask)) {
            return -1;
        }
        if (!isEdge(i)) {
            return -2;
        }
        long sum = 0;
        for (int up = 0; up < (1 << edgeCount); up++) {
            // Each state of the other edges is met once, as the set that has edge i up.
            if (has(up, i) && isState(up, i) && connects(mask, up) && !connects(mask, up - (1 << i))) {
                sum += weightOf(up, i);
            }
        }
        return sum;
    }

    public long worst(int mask) {
        if (!isMask(mask)) {
            return -1;
        }
        int state = worstState(mask);
        return state < 0 ? 0 : weightOf(state, NO_EDGE);
    }

    public int worstState(int mask) {
        if (!isMask(mask)) {
            return -1;
        }
        long greatest = 0;
        int least = -2;
        for (int up = 0; up < (1 << edgeCount); up++) {
            if (isState(up, NO_EDGE) && !connects(mask, up)) {
                long found = weightOf(up, NO_EDGE);
                // Only a greater weight replaces, so that of equal ones the least number stays.
                if (found > greatest) {
                    greatest = found;
                    least = up;
                }
            }
        }
        return least;
    }

    public int cuts(int mask, int k) {
        if (!isMask(mask)) {
            return -1;
        }
        int found = 0;
        for (int down = 0; down < (1 << edgeCount); down++) {
            if (sizeOf(down) == k && isLeastCut(mask, down)) {
                found++;
            }
        }
        return found;
    }

    public int trees() {
        int found = 0;
        for (int up = 0; up < (1 << edgeCount); up++) {
            if (isTree(up)) {
                found++;
            }
        }
        return found;
    }

    public int forests(int k) {
        int found = 0;
        for (int up = 0; up < (1 << edgeCount); up++) {
            if (sizeOf(up) == k && !hasClosedWay(up)) {
                found++;
            }
        }
        return found;
    }

    public int colourings(int q) {
        if (q < 0 || q > MOST_COLOURS) {
            return -1;
        }
        int found = 0;
        for (int colouring = 0; colouring < ALL_COLOURINGS; colouring++) {
            if (usesColoursBelow(q, colouring) && !hasPlainEdge(colouring)) {
                found++;
            }
        }
        return found;
    }

    public int polynomial(int x, int y) {
        if (!isBase(x) || !isBase(y)) {
            return NO_POLYNOMIAL;
        }
        int fewest = partsOf((1 << edgeCount) - 1);
        int sum = 0;
        for (int up = 0; up < (1 << edgeCount); up++) {
            int partCount = partsOf(up);
            int ofX = power(x, partCount - fewest);
            int surplus = sizeOf(up) + partCount - NODES;
            sum += ofX * power(y, surplus);
        }
        return sum;
    }

    private static boolean isNode(int v) {
        return v >= 0 && v < NODES;
    }

    private static boolean isMask(int mask) {
        return mask >= 0 && mask <= ALL_NODES;
    }

    private static boolean isShare(int share) {
        return share >= 0 && share <= MOST_SHARE;
    }

    private static boolean isBase(int base) {
        return base >= -MOST_BASE && base <= MOST_BASE;
    }

    private boolean isEdge(int i) {
        return i >= 0 && i < edgeCount;
    }

    private static boolean has(int set, int member) {
        return (set >> member & 1) == 1;
    }

    private static int sizeOf(int edges) {
        int size = 0;
        for (int i = 0; i < MOST_EDGES; i++) {
            size += edges >> i & 1;
        }
        return size;
    }

    private static int power(int base, int exponent) {
        int product = 1;
        for (int times = 0; times < exponent; times++) {
            product *= base;
        }
        return product;
    }

    private int endsOf(int i) {
        return 1 << firstNodes[i] | 1 << secondNodes[i];
    }

    /** Whether the held edges are as they are held; edge leftOut may be either way. */
    private boolean isState(int up, int leftOut) {
        for (int i = 0; i < edgeCount; i++) {
            if (i != leftOut && holds[i] != FREE && holds[i] != (up >> i & 1)) {
                return false;
            }
        }
        return true;
    }

    /** The weight of a state, without that of edge leftOut. */
    private long weightOf(int up, int leftOut) {
        long product = 1;
        for (int i = 0; i < MOST_EDGES; i++) {
            if (i != leftOut) {
                product *= edgeWeight(i, up);
            }
        }
        return product;
    }

    private int edgeWeight(int i, int up) {
        if (i >= edgeCount || holds[i] != FREE) {
            return MOST_SHARE;
        }
        return has(up, i) ? shares[i] : MOST_SHARE - shares[i];
    }

    /** All nodes that one can come to from the given ones along edges that are up. */
    private int reachedFrom(int nodes, int up) {
        int reached = nodes;
        // A round adds a node unless all are reached, and at most NODES - 1 can be added.
        for (int round = 1; round < NODES; round++) {
            for (int i = 0; i < edgeCount; i++) {
                int ends = endsOf(i);
                if (has(up, i) && (reached & ends) != 0) {
                    reached |= ends;
                }
            }
        }
        return reached;
    }

    private boolean connects(int mask, int up) {
        int lowest = mask & -mask;
        return (mask & ~reachedFrom(lowest, up)) == 0;
    }

    private int partsOf(int up) {
        int found = 0;
        for (int v = 0; v < NODES; v++) {
            int lower = (1 << v) - 1;
            // A part is counted at its lowest node.
            if ((reachedFrom(1 << v, up) & lower) == 0) {
                found++;
            }
        }
        return found;
    }

    private int pairsOf(int up) {
        int found = 0;
        for (int v = 0; v < NODES; v++) {
            int reached = reachedFrom(1 << v, up);
            for (int other = v + 1; other < NODES; other++) {
                found += reached >> other & 1;
            }
        }
        return found;
    }

    private boolean isLeastCut(int mask, int down) {
        int up = (1 << edgeCount) - 1 - down;
        if (connects(mask, up)) {
            return false;
        }
        for (int i = 0; i < edgeCount; i++) {
            if (has(down, i) && !connects(mask, up + (1 << i))) {
                return false;
            }
        }
        return true;
    }

    private boolean isTree(int up) {
        if (!connects(ALL_NODES, up)) {
            return false;
        }
        for (int i = 0; i < edgeCount; i++) {
            if (has(up, i) && connects(ALL_NODES, up - (1 << i))) {
                return false;
            }
        }
        return true;
    }

    /** There is a closed way just if the ends of some edge are connected by the other ones, too. */
    private boolean hasClosedWay(int up) {
        for (int i = 0; i < edgeCount; i++) {
            int ends = endsOf(i);
            if (has(up, i) && connects(ends, up - (1 << i))) {
                return true;
            }
        }
        return false;
    }

    private static int colourOf(int v, int colouring) {
        return colouring >> COLOUR_BITS * v & COLOUR_DIGIT;
    }

    private static boolean usesColoursBelow(int q, int colouring) {
        for (int v = 0; v < NODES; v++) {
            if (colourOf(v, colouring) >= q) {
                return false;
            }
        }
        return true;
    }

    /** Whether some edge is between two nodes of one colour. */
    private boolean hasPlainEdge(int colouring) {
        for (int i = 0; i < edgeCount; i++) {
            int first = colourOf(firstNodes[i], colouring);
            int second = colourOf(secondNodes[i], colouring);
            if (first == second) {
                return true;
            }
        }
        return false;
    }
}
