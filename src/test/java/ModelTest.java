/** Long runs of calls on the class and on the model; every answer must be the same. */
public final class ModelTest {
    private static final int RUNS = 60;
    /** With the 49 calls of the read-out these are the 512 that an object is used for. */
    private static final int CALLS = 463;
    private static final int NETWORKS = 45;
    private static final int[] ODD = {
        Integer.MIN_VALUE, -1000, -33, -2, -1, 31, 32, 33, 64, 1000, Integer.MAX_VALUE
    };

    private static final Due due = new Due();

    /** A fixed row of numbers, so that each run of this test makes the same calls. */
    private static long row = 20240229;

    private static NetworkStates real;
    private static Model model;

    public static void main(String[] args) {
        for (int run = 0; run < RUNS; run++) {
            begin();
            for (int call = 0; call < CALLS; call++) {
                if (below(5) < 2) {
                    change();
                } else {
                    ask();
                }
            }
            readOut();
        }
        for (int network = 0; network < NETWORKS; network++) {
            askEverything(network % 13);
        }
        due.end();
    }

    private static void begin() {
        real = new NetworkStates();
        model = new Model();
    }

    private static int below(int bound) {
        row = row * 6364136223846793005L + 1442695040888963407L;
        return (int) ((row >>> 33) % bound);
    }

    /** Mostly from low to high, now and then just outside, rarely far off. */
    private static int around(int low, int high) {
        if (below(40) == 0) {
            return ODD[below(ODD.length)];
        }
        if (below(12) == 0) {
            return below(2) == 0 ? low - 1 : high + 1;
        }
        return low + below(high - low + 1);
    }

    private static int someShare() {
        int kind = below(6);
        if (kind == 0) {
            return 0;
        }
        if (kind == 1) {
            return 16;
        }
        return kind == 2 ? 8 : around(0, 16);
    }

    private static int someEdge() {
        int last = model.size() - 1;
        return around(0, last < 0 ? 0 : last);
    }

    private static void change() {
        int kind = below(20);
        if (kind < 9) {
            link(around(0, 4), around(0, 4), someShare());
        } else if (kind < 12) {
            int i = someEdge();
            due.answer("unlink(" + i + ")", real.unlink(i), model.unlink(i));
        } else if (kind < 15) {
            int i = someEdge();
            int u = someShare();
            due.answer("share(" + i + ", " + u + ")", real.share(i, u), model.share(i, u));
        } else if (kind < 19 || below(4) != 0) {
            int i = someEdge();
            int how = around(0, 2);
            due.answer("hold(" + i + ", " + how + ")", real.hold(i, how), model.hold(i, how));
        } else {
            due.answer("clear()", real.clear(), model.clear());
        }
    }

    private static void link(int a, int b, int u) {
        due.answer("link(" + a + ", " + b + ", " + u + ")", real.link(a, b, u), model.link(a, b, u));
    }

    private static void ask() {
        int mask = around(0, 31);
        int k = around(0, 12);
        switch (below(12)) {
            case 0 -> weight(mask);
            case 1 -> states(mask, k);
            case 2 -> parts(around(0, 6));
            case 3 -> due.answer("pairs()", real.pairs(), model.pairs());
            case 4 -> pivotal(mask, someEdge());
            case 5 -> worst(mask);
            case 6 -> worstState(mask);
            case 7 -> cuts(mask, around(0, 6));
            case 8 -> due.answer("trees()", real.trees(), model.trees());
            case 9 -> forests(around(0, 5));
            case 10 -> colourings(around(0, 4));
            default -> polynomial(around(-3, 3), around(-3, 3));
        }
    }

    private static void build(int size) {
        for (int i = 0; i < size; i++) {
            int a = below(5);
            link(a, (a + 1 + below(4)) % 5, someShare());
            int how = below(5);
            if (how < 2) {
                due.answer("hold(" + i + ", " + how + ")", real.hold(i, how), model.hold(i, how));
            }
        }
    }

    /** Builds one network anew for each mask, since an object is promised for 512 calls alone. */
    private static void askEverything(int size) {
        long start = row;
        for (int mask = -1; mask <= 32; mask++) {
            row = start;
            begin();
            build(size);
            askOfMask(mask);
        }
        row = start;
        begin();
        build(size);
        askOfAllNodes();
        readOut();
    }

    private static void askOfMask(int mask) {
        weight(mask);
        worst(mask);
        worstState(mask);
        for (int i = -1; i <= model.size(); i++) {
            pivotal(mask, i);
        }
        for (int k = -1; k <= 13; k++) {
            states(mask, k);
            cuts(mask, k);
        }
    }

    private static void askOfAllNodes() {
        for (int k = -1; k <= 13; k++) {
            parts(k);
            forests(k);
            colourings(k);
        }
        for (int x = -4; x <= 4; x++) {
            for (int y = -4; y <= 4; y++) {
                polynomial(x, y);
            }
        }
        due.answer("pairs()", real.pairs(), model.pairs());
        due.answer("trees()", real.trees(), model.trees());
    }

    /** Takes the network apart, so that a share or hold that went wrong unseen is seen. */
    private static void readOut() {
        for (int i = 0; i < 12; i++) {
            due.answer("share(" + i + ", 8)", real.share(i, 8), model.share(i, 8));
            due.answer("hold(" + i + ", 2)", real.hold(i, 2), model.hold(i, 2));
        }
        for (int i = 0; i < 12; i++) {
            due.answer("pairs()", real.pairs(), model.pairs());
            due.answer("unlink(0)", real.unlink(0), model.unlink(0));
        }
        due.answer("clear()", real.clear(), model.clear());
    }

    private static void weight(int mask) {
        due.answer("weight(" + mask + ")", real.weight(mask), model.weight(mask));
    }

    private static void states(int mask, int k) {
        due.answer("states(" + mask + ", " + k + ")", real.states(mask, k), model.states(mask, k));
    }

    private static void parts(int k) {
        due.answer("parts(" + k + ")", real.parts(k), model.parts(k));
    }

    private static void pivotal(int mask, int i) {
        due.answer("pivotal(" + mask + ", " + i + ")", real.pivotal(mask, i), model.pivotal(mask, i));
    }

    private static void worst(int mask) {
        due.answer("worst(" + mask + ")", real.worst(mask), model.worst(mask));
    }

    private static void worstState(int mask) {
        due.answer("worstState(" + mask + ")", real.worstState(mask), model.worstState(mask));
    }

    private static void cuts(int mask, int k) {
        due.answer("cuts(" + mask + ", " + k + ")", real.cuts(mask, k), model.cuts(mask, k));
    }

    private static void forests(int k) {
        due.answer("forests(" + k + ")", real.forests(k), model.forests(k));
    }

    private static void colourings(int q) {
        due.answer("colourings(" + q + ")", real.colourings(q), model.colourings(q));
    }

    private static void polynomial(int x, int y) {
        due.answer("polynomial(" + x + ", " + y + ")", real.polynomial(x, y), model.polynomial(x, y));
    }
}
