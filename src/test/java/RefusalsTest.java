import java.util.List;
import java.util.function.Supplier;
import java.util.function.ToLongFunction;

/**
 * "A refused call changes nothing. The tests of a call are made in the order in which they are
 * named." and "The calls below change nothing." Each call is made on one of two objects that are
 * built alike; then all that can be seen of both must be the same.
 */
public final class RefusalsTest {
    private static final int LOW = Networks.LOW;
    private static final int HIGH = Networks.HIGH;

    private static final List<Supplier<NetworkStates>> KINDS = List.of(
            Networks::none, Networks::threeMixed, Networks::twelveMixed);
    private static final int[] SIZES = {0, 3, 12};

    private static final Due due = new Due();

    public static void main(String[] args) {
        readOutSeesEachChange();
        for (int kind = 0; kind < SIZES.length; kind++) {
            Supplier<NetworkStates> build = KINDS.get(kind);
            int size = SIZES[kind];
            refusedLinks(build);
            refusedUnlinks(build, size);
            refusedShares(build, size);
            refusedHolds(build, size);
            refusedQuestions(build, size);
            answeredQuestions(build, size);
        }
        clearOfNone();
        refusedLinkOfTwelve();
        linkTestsNodesBeforeShare();
        linkTestsNodesBeforeRoom();
        linkTestsShareBeforeRoom();
        shareTestsEdgeBeforeShare();
        holdTestsEdgeBeforeHow();
        pivotalTestsMaskBeforeEdge();
        statesAndCutsTestTheMaskForAnyCount();
        due.end();
    }

    /** The call answers as due, and leaves its object as one that was never called so. */
    private static void changesNothing(String call, Supplier<NetworkStates> build,
            ToLongFunction<NetworkStates> made, long answer) {
        NetworkStates tried = build.get();
        due.answer(call, made.applyAsLong(tried), answer);
        due.answer(call + " again", made.applyAsLong(tried), answer);
        due.same(call + " changes nothing", ReadOut.of(tried), ReadOut.of(build.get()));
    }

    private static void asked(String call, Supplier<NetworkStates> build, ToLongFunction<NetworkStates> made) {
        changesNothing(call, build, made, made.applyAsLong(build.get()));
    }

    /** The other tests of this file would see nothing if the read-out did not. */
    private static void readOutSeesEachChange() {
        for (int i = 0; i < 12; i++) {
            int edge = i;
            isSeen("unlink(" + i + ")", n -> n.unlink(edge));
            isSeen("share(" + i + ", 0)", n -> n.share(edge, 0));
            for (int how = 0; how <= 2; how++) {
                int to = how;
                if (Networks.twelveMixed().hold(i, how) != how) {
                    isSeen("hold(" + i + ", " + how + ")", n -> n.hold(edge, to));
                }
            }
        }
        isSeen("clear()", NetworkStates::clear);
        due.holds("the read-out sees a new edge", !ReadOut.of(Networks.none())
                .equals(ReadOut.of(Networks.between(3, 4, 0, 1))));
        due.holds("the read-out sees its nodes", !ReadOut.of(Networks.between(0, 1, 0, 1))
                .equals(ReadOut.of(Networks.between(0, 2, 0, 1))));
    }

    private static void isSeen(String call, ToLongFunction<NetworkStates> made) {
        NetworkStates changed = Networks.twelveMixed();
        made.applyAsLong(changed);
        due.holds("the read-out sees " + call,
                !ReadOut.of(changed).equals(ReadOut.of(Networks.twelveMixed())));
    }

    private static void refusedLinks(Supplier<NetworkStates> build) {
        for (int bad : Networks.NO_NODES) {
            changesNothing("link(" + bad + ", 4, 8)", build, n -> n.link(bad, 4, 8), -1);
            changesNothing("link(0, " + bad + ", 8)", build, n -> n.link(0, bad, 8), -1);
        }
        for (int v = 0; v <= 4; v++) {
            int same = v;
            changesNothing("link(" + v + ", " + v + ", 8)", build, n -> n.link(same, same, 8), -1);
        }
        for (int bad : Networks.NO_SHARES) {
            changesNothing("link(0, 4, " + bad + ")", build, n -> n.link(0, 4, bad), -2);
        }
    }

    private static void refusedLinkOfTwelve() {
        Supplier<NetworkStates> build = Networks::twelveMixed;
        changesNothing("link(0, 4, 0) of twelve", build, n -> n.link(0, 4, 0), -3);
        changesNothing("link(4, 0, 16) of twelve", build, n -> n.link(4, 0, 16), -3);
    }

    private static void refusedUnlinks(Supplier<NetworkStates> build, int size) {
        for (int i : noEdges(size)) {
            changesNothing("unlink(" + i + ") of " + size, build, n -> n.unlink(i), -1);
        }
    }

    private static void refusedShares(Supplier<NetworkStates> build, int size) {
        for (int i : noEdges(size)) {
            changesNothing("share(" + i + ", 1) of " + size, build, n -> n.share(i, 1), -1);
        }
        for (int bad : Networks.NO_SHARES) {
            for (int i = 0; i < size; i++) {
                int edge = i;
                changesNothing("share(" + i + ", " + bad + ")", build, n -> n.share(edge, bad), -2);
            }
        }
    }

    private static void refusedHolds(Supplier<NetworkStates> build, int size) {
        for (int i : noEdges(size)) {
            for (int how = 0; how <= 2; how++) {
                int to = how;
                changesNothing("hold(" + i + ", " + how + ") of " + size, build, n -> n.hold(i, to), -1);
            }
        }
        for (int bad : Networks.NO_HOWS) {
            for (int i = 0; i < size; i++) {
                int edge = i;
                changesNothing("hold(" + i + ", " + bad + ")", build, n -> n.hold(edge, bad), -2);
            }
        }
    }

    private static void refusedQuestions(Supplier<NetworkStates> build, int size) {
        for (int mask : Networks.NO_MASKS) {
            changesNothing("weight(" + mask + ")", build, n -> n.weight(mask), -1);
            changesNothing("states(" + mask + ", 1)", build, n -> n.states(mask, 1), -1);
            changesNothing("pivotal(" + mask + ", 0)", build, n -> n.pivotal(mask, 0), -1);
            changesNothing("worst(" + mask + ")", build, n -> n.worst(mask), -1);
            changesNothing("worstState(" + mask + ")", build, n -> n.worstState(mask), -1);
            changesNothing("cuts(" + mask + ", 1)", build, n -> n.cuts(mask, 1), -1);
        }
        for (int i : noEdges(size)) {
            changesNothing("pivotal(31, " + i + ") of " + size, build, n -> n.pivotal(31, i), -2);
        }
        int[] noColours = {LOW, -1, 5, HIGH};
        for (int q : noColours) {
            changesNothing("colourings(" + q + ")", build, n -> n.colourings(q), -1);
        }
        int[] noBases = {LOW, -4, 4, HIGH};
        for (int base : noBases) {
            changesNothing("polynomial(" + base + ", 3)", build, n -> n.polynomial(base, 3), -1000000000);
            changesNothing("polynomial(-3, " + base + ")", build, n -> n.polynomial(-3, base), -1000000000);
        }
    }

    /** The calls below change nothing. */
    private static void answeredQuestions(Supplier<NetworkStates> build, int size) {
        int[] masks = {0, 1, 3, 16, 17, 30, 31};
        for (int mask : masks) {
            asked("weight(" + mask + ")", build, n -> n.weight(mask));
            asked("states(" + mask + ", 3)", build, n -> n.states(mask, 3));
            asked("worst(" + mask + ")", build, n -> n.worst(mask));
            asked("worstState(" + mask + ")", build, n -> n.worstState(mask));
            asked("cuts(" + mask + ", 2)", build, n -> n.cuts(mask, 2));
            for (int i = 0; i < size; i++) {
                int edge = i;
                asked("pivotal(" + mask + ", " + i + ")", build, n -> n.pivotal(mask, edge));
            }
        }
        int[] counts = {LOW, -1, 0, 1, 4, 5, 6, 12, 13, HIGH};
        for (int k : counts) {
            asked("states(31, " + k + ")", build, n -> n.states(31, k));
            asked("parts(" + k + ")", build, n -> n.parts(k));
            asked("cuts(31, " + k + ")", build, n -> n.cuts(31, k));
            asked("forests(" + k + ")", build, n -> n.forests(k));
        }
        asked("pairs()", build, NetworkStates::pairs);
        asked("trees()", build, NetworkStates::trees);
        for (int q = 0; q <= 4; q++) {
            int colours = q;
            asked("colourings(" + q + ")", build, n -> n.colourings(colours));
        }
        for (int base = -3; base <= 3; base++) {
            int x = base;
            asked("polynomial(" + x + ", " + -x + ")", build, n -> n.polynomial(x, -x));
        }
    }

    /** clear refuses nothing, but where no edge is there is nothing to change. */
    private static void clearOfNone() {
        changesNothing("clear() of none", Networks::none, NetworkStates::clear, 0);
    }

    private static int[] noEdges(int size) {
        return new int[] {LOW, LOW + size, -1, size, size + 1, 12, 13, 32, HIGH};
    }

    /** link: a wrong node (-1) is named before a wrong share (-2). */
    private static void linkTestsNodesBeforeShare() {
        for (int share : Networks.NO_SHARES) {
            nodesAreTestedFirst(Networks::none, share);
            nodesAreTestedFirst(Networks::threeMixed, share);
            nodesAreTestedFirst(Networks::twelveMixed, share);
        }
    }

    /** link: a wrong node (-1) is named before the twelve edges (-3). */
    private static void linkTestsNodesBeforeRoom() {
        nodesAreTestedFirst(Networks::twelveMixed, 0);
        nodesAreTestedFirst(Networks::twelveMixed, 16);
    }

    private static void nodesAreTestedFirst(Supplier<NetworkStates> build, int share) {
        for (int bad : Networks.NO_NODES) {
            changesNothing("link(" + bad + ", 1, " + share + ")", build, n -> n.link(bad, 1, share), -1);
            changesNothing("link(1, " + bad + ", " + share + ")", build, n -> n.link(1, bad, share), -1);
            changesNothing("link(" + bad + ", " + bad + ", " + share + ")", build,
                    n -> n.link(bad, bad, share), -1);
        }
        changesNothing("link(3, 3, " + share + ")", build, n -> n.link(3, 3, share), -1);
    }

    /** link: a wrong share (-2) is named before the twelve edges (-3). */
    private static void linkTestsShareBeforeRoom() {
        for (int share : Networks.NO_SHARES) {
            changesNothing("link(0, 4, " + share + ") of twelve", Networks::twelveMixed,
                    n -> n.link(0, 4, share), -2);
        }
    }

    /** share: no such edge (-1) is named before a wrong share (-2). */
    private static void shareTestsEdgeBeforeShare() {
        for (int kind = 0; kind < SIZES.length; kind++) {
            for (int i : noEdges(SIZES[kind])) {
                for (int bad : Networks.NO_SHARES) {
                    changesNothing("share(" + i + ", " + bad + ") of " + SIZES[kind], KINDS.get(kind),
                            n -> n.share(i, bad), -1);
                }
            }
        }
    }

    /** hold: no such edge (-1) is named before a wrong how (-2). */
    private static void holdTestsEdgeBeforeHow() {
        for (int kind = 0; kind < SIZES.length; kind++) {
            for (int i : noEdges(SIZES[kind])) {
                for (int bad : Networks.NO_HOWS) {
                    changesNothing("hold(" + i + ", " + bad + ") of " + SIZES[kind], KINDS.get(kind),
                            n -> n.hold(i, bad), -1);
                }
            }
        }
    }

    /** pivotal: There is no edge i: -2 (after the mask is tested). */
    private static void pivotalTestsMaskBeforeEdge() {
        for (int kind = 0; kind < SIZES.length; kind++) {
            for (int i : noEdges(SIZES[kind])) {
                for (int mask : Networks.NO_MASKS) {
                    due.answer("pivotal(" + mask + ", " + i + ") of " + SIZES[kind],
                            KINDS.get(kind).get().pivotal(mask, i), -1);
                }
            }
        }
    }

    /** A wrong mask is answered with -1, also for a k that no state has. */
    private static void statesAndCutsTestTheMaskForAnyCount() {
        int[] counts = {LOW, -1, 0, 12, 13, HIGH};
        for (int mask : Networks.NO_MASKS) {
            for (int k : counts) {
                due.answer("states(" + mask + ", " + k + ")", Networks.threeMixed().states(mask, k), -1);
                due.answer("cuts(" + mask + ", " + k + ")", Networks.threeMixed().cuts(mask, k), -1);
            }
        }
    }
}
