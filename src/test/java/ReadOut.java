import java.util.ArrayList;
import java.util.List;

/** All that can be seen of an object, as a row of answers; the object's edges are gone after it. */
final class ReadOut {
    private ReadOut() {
    }

    static List<Long> of(NetworkStates n) {
        List<Long> row = new ArrayList<>();
        ask(n, row);
        takeSharesAndHolds(n, row);
        takeNodes(n, row);
        row.add((long) n.clear());
        return row;
    }

    private static void ask(NetworkStates n, List<Long> row) {
        for (int mask = 0; mask < 32; mask++) {
            row.add(n.weight(mask));
        }
        for (int k = 0; k <= 12; k++) {
            row.add((long) n.states(0, k));
        }
        row.add(n.pairs());
        row.add((long) n.worstState(31));
        row.add((long) n.polynomial(2, 3));
    }

    /** Afterwards every edge is held down. */
    private static void takeSharesAndHolds(NetworkStates n, List<Long> row) {
        for (int i = 0; i < 12; i++) {
            row.add((long) n.share(i, 8));
            row.add((long) n.hold(i, 0));
        }
    }

    /** Only one edge is up at a time, so the one pair that is connected tells its nodes. */
    private static void takeNodes(NetworkStates n, List<Long> row) {
        for (int i = 0; i < 12; i++) {
            n.hold(i, 1);
            for (int v = 0; v < 4; v++) {
                for (int w = v + 1; w < 5; w++) {
                    row.add(n.weight(1 << v | 1 << w));
                }
            }
            n.hold(i, 0);
        }
    }
}
