/** Networks and numbers that several tests use. */
final class Networks {
    /** The weight of all states together: 16 to the power 12. */
    static final long ALL = 1L << 48;
    static final int LOW = Integer.MIN_VALUE;
    static final int HIGH = Integer.MAX_VALUE;
    static final int NO_POLYNOMIAL = -1000000000;

    static final int[] NO_NODES = {LOW, -1, 5, HIGH};
    static final int[] NO_SHARES = {LOW, -1, 17, HIGH};
    static final int[] NO_HOWS = {LOW, -1, 3, HIGH};
    /** Besides the numbers next to 0 and 31 such as have binary digits of a right mask, too. */
    static final int[] NO_MASKS = {LOW, LOW + 3, -32, -29, -1, 32, 35, 63, 256 + 3, HIGH};
    static final int[] FEWER_THAN_TWO = {0, 1, 2, 4, 8, 16};

    private Networks() {
    }

    static NetworkStates none() {
        return new NetworkStates();
    }

    /** Nodes 0, 1, 2; every share is 8, so that every state weighs the same. */
    static NetworkStates triangle() {
        NetworkStates n = new NetworkStates();
        n.link(0, 1, 8);
        n.link(1, 2, 8);
        n.link(2, 0, 8);
        return n;
    }

    /** Nodes 0 to 4 in a row. */
    static NetworkStates path(int share) {
        NetworkStates n = new NetworkStates();
        for (int v = 0; v < 4; v++) {
            n.link(v, v + 1, share);
        }
        return n;
    }

    static NetworkStates ring(int share) {
        NetworkStates n = path(share);
        n.link(4, 0, share);
        return n;
    }

    static NetworkStates complete() {
        NetworkStates n = new NetworkStates();
        for (int a = 0; a < 5; a++) {
            for (int b = a + 1; b < 5; b++) {
                n.link(a, b, 8);
            }
        }
        return n;
    }

    static NetworkStates between(int a, int b, int share, int edges) {
        NetworkStates n = new NetworkStates();
        for (int i = 0; i < edges; i++) {
            n.link(a, b, share);
        }
        return n;
    }

    static NetworkStates twelveBetween(int a, int b, int share) {
        return between(a, b, share, 12);
    }

    /** One edge held up, one held down, one free. */
    static NetworkStates threeMixed() {
        NetworkStates n = new NetworkStates();
        n.link(0, 1, 5);
        n.link(1, 2, 6);
        n.link(3, 2, 7);
        n.hold(0, 1);
        n.hold(1, 0);
        return n;
    }

    /** Edge i has share i + 2; there are held and free ones, and several between the same two. */
    static NetworkStates twelveMixed() {
        return twelveMixedWithout(-1);
    }

    /** As twelveMixed, but edge leftOut is never put. */
    static NetworkStates twelveMixedWithout(int leftOut) {
        NetworkStates n = new NetworkStates();
        for (int i = 0; i < 12; i++) {
            if (i != leftOut) {
                int a = i * i % 5;
                int edge = n.link(a, (a + 1 + i % 3) % 5, i + 2);
                n.hold(edge, (i + 2) % 4 % 3);
            }
        }
        return n;
    }

    /** How many sets of k there are in a set of n; 0 if k is not 0 to n. */
    static long choose(int n, int k) {
        if (k < 0 || k > n) {
            return 0;
        }
        long sets = 1;
        for (int i = 0; i < k; i++) {
            sets = sets * (n - i) / (i + 1);
        }
        return sets;
    }

    static long power(long base, int exponent) {
        long product = 1;
        for (int i = 0; i < exponent; i++) {
            product *= base;
        }
        return product;
    }
}
