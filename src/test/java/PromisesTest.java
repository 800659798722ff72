/** Each promise with answers worked out by hand: ordinary inputs, named edges, wrong inputs. */
public final class PromisesTest {
    private static final long ALL = Networks.ALL;
    private static final int LOW = Networks.LOW;
    private static final int HIGH = Networks.HIGH;
    private static final int NO_POLYNOMIAL = Networks.NO_POLYNOMIAL;

    private static final Due due = new Due();

    public static void main(String[] args) {
        newObject();
        link();
        linkMakesAFreeEdge();
        unlink();
        share();
        hold();
        clear();
        weight();
        weightWithHeldEdges();
        weightWithTwelveEdges();
        states();
        parts();
        pairs();
        pivotal();
        worst();
        worstState();
        cuts();
        trees();
        forests();
        colourings();
        polynomial();
        refusedCallsChangeNothing();
        questionsChangeNothing();
        objectsAreApart();
        due.end();
    }

    private static void newObject() {
        NetworkStates n = new NetworkStates();
        due.answer("1: unlink(0)", n.unlink(0), -1);
        due.answer("1: share(0, 0)", n.share(0, 0), -1);
        due.answer("1: hold(0, 0)", n.hold(0, 0), -1);
        due.answer("1: weight(0)", n.weight(0), ALL);
        due.answer("1: weight(16)", n.weight(16), ALL);
        due.answer("1: weight(3)", n.weight(3), 0);
        due.answer("1: states(0, 0)", n.states(0, 0), 1);
        due.answer("1: parts(5)", n.parts(5), ALL);
        due.answer("1: parts(4)", n.parts(4), 0);
        due.answer("1: pairs()", n.pairs(), 0);
        due.answer("1: pivotal(3, 0)", n.pivotal(3, 0), -2);
        due.answer("1: worst(3)", n.worst(3), ALL);
        due.answer("1: worstState(3)", n.worstState(3), 0);
        due.answer("1: cuts(3, 0)", n.cuts(3, 0), 1);
        due.answer("1: trees()", n.trees(), 0);
        due.answer("1: forests(0)", n.forests(0), 1);
        due.answer("1: forests(1)", n.forests(1), 0);
        due.answer("1: polynomial(3, 3)", n.polynomial(3, 3), 1);
        due.answer("1: clear()", n.clear(), 0);
    }

    private static void link() {
        NetworkStates n = new NetworkStates();
        int[] noNodes = {-1, 5, LOW, HIGH};
        for (int v : noNodes) {
            due.answer("2: link(" + v + ", 0, 8)", n.link(v, 0, 8), -1);
            due.answer("2: link(0, " + v + ", 8)", n.link(0, v, 8), -1);
            due.answer("2: link(0, " + v + ", 17)", n.link(0, v, 17), -1);
        }
        for (int v = 0; v < 5; v++) {
            due.answer("2: link to itself", n.link(v, v, 8), -1);
            due.answer("2: link to itself, wrong share", n.link(v, v, -1), -1);
        }
        int[] noShares = {-1, 17, LOW, HIGH};
        for (int u : noShares) {
            due.answer("2: link(0, 1, " + u + ")", n.link(0, 1, u), -2);
        }
        due.answer("2: refused links put nothing", n.clear(), 0);
        for (int i = 0; i < 12; i++) {
            int share = i % 2 == 0 ? 0 : 16;
            due.answer("2: link " + i, n.link(i % 5, (i + 1) % 5, share), i);
        }
        due.answer("2: a thirteenth", n.link(0, 1, 8), -3);
        due.answer("2: a thirteenth, wrong share", n.link(0, 1, 17), -2);
        due.answer("2: a thirteenth, same node", n.link(1, 1, 8), -1);
        due.answer("2: a thirteenth, no node", n.link(0, 5, 17), -1);
        due.answer("2: a thirteenth is not put", n.clear(), 12);
        due.answer("2: after clear", n.link(4, 3, 16), 0);
        due.answer("2: its nodes", n.weight(24), ALL);
        due.answer("2: its share", n.share(0, 1), 16);
    }

    private static void linkMakesAFreeEdge() {
        NetworkStates n = new NetworkStates();
        n.link(0, 1, 8);
        due.answer("2: a new edge is free", n.hold(0, 1), 2);
        n.unlink(0);
        n.link(0, 1, 8);
        due.answer("2: free where a held one was unlinked", n.hold(0, 0), 2);
        n.clear();
        n.link(0, 1, 8);
        due.answer("2: free where a held one was cleared", n.hold(0, 2), 2);
    }

    private static void unlink() {
        NetworkStates n = new NetworkStates();
        n.link(0, 1, 1);
        n.link(1, 2, 16);
        n.link(2, 3, 3);
        n.link(3, 4, 16);
        n.hold(0, 0);
        n.hold(2, 1);
        int[] none = {-1, 4, 11, 12, LOW, HIGH};
        for (int i : none) {
            due.answer("3: unlink(" + i + ")", n.unlink(i), -1);
        }
        due.answer("3: unlink(1)", n.unlink(1), 3);
        due.answer("3: no way 1-2 any more", n.weight(6), 0);
        due.answer("3: 2-3 is there", n.weight(12), ALL);
        due.answer("3: 3-4 is there", n.weight(24), ALL);
        due.answer("3: hold of edge 0 stays", n.hold(0, 2), 0);
        due.answer("3: hold of edge 2 is edge 1's", n.hold(1, 2), 1);
        due.answer("3: hold of edge 3 is edge 2's", n.hold(2, 2), 2);
        due.answer("3: share of edge 0 stays", n.share(0, 5), 1);
        due.answer("3: share of edge 2 is edge 1's", n.share(1, 6), 3);
        due.answer("3: share of edge 3 is edge 2's", n.share(2, 7), 16);
        due.answer("3: there is no edge 3", n.unlink(3), -1);
        due.answer("3: the last one", n.unlink(2), 2);
        due.answer("3: the first one", n.unlink(0), 1);
        due.answer("3: the one that is left", n.share(0, 0), 6);
        due.answer("3: to none", n.unlink(0), 0);
        due.answer("3: from none", n.unlink(0), -1);

        NetworkStates full = Networks.twelveBetween(0, 1, 4);
        due.answer("3: unlink(12) of twelve", full.unlink(12), -1);
        due.answer("3: unlink(0) of twelve", full.unlink(0), 11);
        due.answer("3: room for one again", full.link(0, 1, 9), 11);
        due.answer("3: unlink(11) of twelve", full.unlink(11), 11);
    }

    private static void share() {
        NetworkStates n = new NetworkStates();
        n.link(0, 1, 12);
        n.link(1, 2, 3);
        int[] none = {-1, 2, 12, LOW, HIGH};
        for (int i : none) {
            due.answer("4: share(" + i + ", 8)", n.share(i, 8), -1);
            due.answer("4: share(" + i + ", 17)", n.share(i, 17), -1);
        }
        int[] noShares = {-1, 17, LOW, HIGH};
        for (int u : noShares) {
            due.answer("4: share(0, " + u + ")", n.share(0, u), -2);
        }
        due.answer("4: share(0, 16)", n.share(0, 16), 12);
        due.answer("4: it weighs", n.weight(3), ALL);
        due.answer("4: share(0, 0)", n.share(0, 0), 16);
        due.answer("4: it weighs nothing", n.weight(3), 0);
        due.answer("4: share(0, 7)", n.share(0, 7), 0);
        due.answer("4: it weighs 7", n.weight(3), ALL / 16 * 7);
        due.answer("4: the other is as it was", n.share(1, 3), 3);
        n.hold(0, 1);
        due.answer("4: share of a held edge", n.share(0, 4), 7);
        due.answer("4: it is held still", n.hold(0, 2), 1);
        due.answer("4: and has its new share", n.weight(3), ALL / 16 * 4);
    }

    private static void hold() {
        NetworkStates n = new NetworkStates();
        n.link(0, 1, 12);
        n.link(1, 2, 3);
        int[] none = {-1, 2, 12, LOW, HIGH};
        for (int i : none) {
            due.answer("5: hold(" + i + ", 1)", n.hold(i, 1), -1);
            due.answer("5: hold(" + i + ", 3)", n.hold(i, 3), -1);
        }
        int[] noHows = {-1, 3, LOW, HIGH};
        for (int how : noHows) {
            due.answer("5: hold(0, " + how + ")", n.hold(0, how), -2);
        }
        due.answer("5: hold(0, 1)", n.hold(0, 1), 2);
        due.answer("5: it is up", n.weight(3), ALL);
        due.answer("5: hold(0, 1) again", n.hold(0, 1), 1);
        due.answer("5: hold(0, 0)", n.hold(0, 0), 1);
        due.answer("5: it is down", n.weight(3), 0);
        due.answer("5: hold(0, 0) again", n.hold(0, 0), 0);
        due.answer("5: hold(0, 2)", n.hold(0, 2), 0);
        due.answer("5: it is free", n.weight(3), ALL / 16 * 12);
        due.answer("5: the other is free", n.hold(1, 0), 2);
    }

    private static void clear() {
        NetworkStates n = Networks.triangle();
        n.hold(1, 1);
        due.answer("6: clear()", n.clear(), 3);
        due.answer("6: no edge 0", n.unlink(0), -1);
        due.answer("6: nothing is connected", n.weight(6), 0);
        due.answer("6: one state", n.states(0, 0), 1);
        due.answer("6: clear() again", n.clear(), 0);
        due.answer("6: link starts at 0", n.link(0, 1, 8), 0);
        due.answer("6: clear of one", n.clear(), 1);
    }

    private static void weight() {
        NetworkStates n = Networks.triangle();
        due.answer("7: all three nodes", n.weight(7), ALL / 2);
        due.answer("7: two nodes", n.weight(3), ALL / 8 * 5);
        due.answer("7: two others", n.weight(5), ALL / 8 * 5);
        due.answer("7: a node without edges", n.weight(9), 0);
        due.answer("7: no node", n.weight(0), ALL);
        for (int v = 0; v < 5; v++) {
            due.answer("7: node " + v + " alone", n.weight(1 << v), ALL);
        }
        int[] noMasks = {-1, 32, 33, LOW, HIGH};
        for (int mask : noMasks) {
            due.answer("7: weight(" + mask + ")", n.weight(mask), -1);
        }
        NetworkStates path = new NetworkStates();
        path.link(3, 4, 5);
        path.link(2, 3, 6);
        path.link(1, 2, 7);
        path.link(0, 1, 9);
        long rest = ALL / 65536;
        due.answer("7: the ends of a path", path.weight(17), rest * 5 * 6 * 7 * 9);
        due.answer("7: a whole path", path.weight(31), rest * 5 * 6 * 7 * 9);
        due.answer("7: a piece of a path", path.weight(12), ALL / 16 * 6);
    }

    private static void weightWithHeldEdges() {
        NetworkStates n = Networks.triangle();
        n.hold(0, 1);
        due.answer("7: held up", n.weight(3), ALL);
        due.answer("7: held up, the others", n.weight(7), ALL / 4 * 3);
        n.hold(0, 0);
        due.answer("7: held down", n.weight(3), ALL / 4);
        n.hold(1, 0);
        due.answer("7: two held down", n.weight(3), 0);
        due.answer("7: two held down, no node", n.weight(0), ALL);
    }

    private static void weightWithTwelveEdges() {
        NetworkStates n = Networks.twelveBetween(1, 4, 15);
        due.answer("7: all but the state with all down", n.weight(18), ALL - 1);
        n.hold(11, 0);
        due.answer("7: one of twelve held down", n.weight(18), ALL - 16);
        n.hold(11, 1);
        due.answer("7: one of twelve held up", n.weight(18), ALL);
    }

    private static void states() {
        NetworkStates n = Networks.triangle();
        n.share(0, 0);
        n.share(1, 16);
        int[] allStates = {1, 3, 3, 1, 0};
        int[] connecting = {0, 0, 3, 1, 0};
        int[] connectingTwo = {0, 1, 3, 1, 0};
        for (int k = 0; k < 5; k++) {
            due.answer("8: states(0, " + k + ")", n.states(0, k), allStates[k]);
            due.answer("8: states(16, " + k + ")", n.states(16, k), allStates[k]);
            due.answer("8: states(7, " + k + ")", n.states(7, k), connecting[k]);
            due.answer("8: states(3, " + k + ")", n.states(3, k), connectingTwo[k]);
            due.answer("8: states(11, " + k + ")", n.states(11, k), 0);
        }
        int[] noCounts = {-1, 12, 13, LOW, HIGH};
        for (int k : noCounts) {
            due.answer("8: states(0, " + k + ")", n.states(0, k), 0);
            due.answer("8: states(32, " + k + ")", n.states(32, k), -1);
        }
        int[] noMasks = {-1, 32, LOW, HIGH};
        for (int mask : noMasks) {
            due.answer("8: states(" + mask + ", 0)", n.states(mask, 0), -1);
        }
        n.hold(0, 1);
        int[] withOneUp = {0, 1, 2, 1, 0};
        n.hold(2, 2);
        for (int k = 0; k < 5; k++) {
            due.answer("8: one held up, " + k, n.states(0, k), withOneUp[k]);
        }
        n.hold(0, 0);
        int[] withOneDown = {1, 2, 1, 0, 0};
        for (int k = 0; k < 5; k++) {
            due.answer("8: one held down, " + k, n.states(0, k), withOneDown[k]);
        }
        due.answer("8: one held down, all nodes", n.states(7, 2), 1);
        NetworkStates full = Networks.twelveBetween(0, 1, 8);
        due.answer("8: all twelve up", full.states(3, 12), 1);
        due.answer("8: six of twelve up", full.states(3, 6), 924);
        due.answer("8: none of twelve up", full.states(3, 0), 0);
    }

    private static void parts() {
        NetworkStates n = Networks.triangle();
        long[] sums = {0, 0, 0, ALL / 2, ALL / 8 * 3, ALL / 8, 0};
        for (int k = 0; k < 7; k++) {
            due.answer("9: parts(" + k + ")", n.parts(k), sums[k]);
        }
        int[] noCounts = {-1, 6, LOW, HIGH};
        for (int k : noCounts) {
            due.answer("9: parts(" + k + ")", n.parts(k), 0);
        }
        n.link(3, 4, 4);
        due.answer("9: two parts", n.parts(2), ALL / 8);
        due.answer("9: three parts", n.parts(3), ALL / 8 * 3 + ALL / 32 * 3);
        n.hold(3, 1);
        due.answer("9: five parts, an edge held up", n.parts(5), 0);
        due.answer("9: four parts, an edge held up", n.parts(4), ALL / 8);
        n.hold(3, 2);
        n.link(2, 3, 16);
        n.share(3, 16);
        due.answer("9: one part", n.parts(1), ALL / 2);
    }

    private static void pairs() {
        NetworkStates n = Networks.triangle();
        due.answer("10: triangle", n.pairs(), ALL / 8 * 15);
        n.link(3, 4, 4);
        due.answer("10: and a pair apart", n.pairs(), ALL / 8 * 15 + ALL / 4);
        n.hold(0, 1);
        due.answer("10: an edge held up", n.pairs(), ALL / 4 + ALL / 4 * (1 + 3 * 3));
        NetworkStates path = new NetworkStates();
        for (int v = 0; v < 4; v++) {
            path.link(v, v + 1, 0);
            path.hold(v, 1);
        }
        due.answer("10: all pairs", path.pairs(), ALL * 10);
        path.hold(1, 0);
        due.answer("10: parts of two and of three", path.pairs(), ALL * 4);
    }

    private static void pivotal() {
        NetworkStates n = Networks.triangle();
        long others = ALL / 16;
        due.answer("11: three nodes", n.pivotal(7, 0), others / 2);
        due.answer("11: its two nodes", n.pivotal(3, 0), others / 4 * 3);
        due.answer("11: two nodes, another edge", n.pivotal(3, 1), others / 4);
        due.answer("11: no node", n.pivotal(0, 0), 0);
        due.answer("11: one node", n.pivotal(1, 0), 0);
        due.answer("11: a node never reached", n.pivotal(9, 0), 0);
        for (int u = 0; u <= 16; u++) {
            n.share(0, u);
            due.answer("11: whatever its share is", n.pivotal(3, 0), others / 4 * 3);
        }
        n.hold(0, 0);
        due.answer("11: it is held down", n.pivotal(3, 0), others / 4 * 3);
        n.hold(0, 1);
        due.answer("11: it is held up", n.pivotal(3, 0), others / 4 * 3);
        n.hold(1, 0);
        due.answer("11: another is held down", n.pivotal(3, 0), others);
        n.hold(1, 1);
        due.answer("11: another is held up", n.pivotal(3, 0), others / 2);
        n.share(2, 3);
        due.answer("11: another share counts", n.pivotal(3, 0), others / 16 * 13);
        int[] none = {-1, 3, 12, LOW, HIGH};
        for (int i : none) {
            due.answer("11: pivotal(3, " + i + ")", n.pivotal(3, i), -2);
            due.answer("11: pivotal(0, " + i + ")", n.pivotal(0, i), -2);
            due.answer("11: pivotal(32, " + i + ")", n.pivotal(32, i), -1);
        }
        int[] noMasks = {-1, 32, LOW, HIGH};
        for (int mask : noMasks) {
            due.answer("11: pivotal(" + mask + ", 0)", n.pivotal(mask, 0), -1);
        }
        NetworkStates full = Networks.twelveBetween(2, 3, 8);
        due.answer("11: the only one of twelve up", full.pivotal(12, 11), others / 2048);
    }

    private static void worst() {
        NetworkStates n = new NetworkStates();
        n.link(0, 1, 12);
        n.link(1, 2, 10);
        long rest = ALL / 256;
        due.answer("12: the ends of a path", n.worst(5), rest * 12 * 6);
        due.answer("12: two nodes", n.worst(3), rest * 4 * 10);
        due.answer("12: nodes never connected", n.worst(24), rest * 12 * 10);
        due.answer("12: no node", n.worst(0), 0);
        due.answer("12: one node", n.worst(4), 0);
        n.hold(0, 0);
        due.answer("12: one held down", n.worst(5), rest * 16 * 10);
        n.hold(0, 1);
        due.answer("12: one held up", n.worst(5), rest * 16 * 6);
        n.hold(1, 1);
        due.answer("12: there is no such state", n.worst(5), 0);
        n.hold(0, 2);
        n.share(0, 16);
        due.answer("12: all such states weigh 0", n.worst(5), 0);
        int[] noMasks = {-1, 32, LOW, HIGH};
        for (int mask : noMasks) {
            due.answer("12: worst(" + mask + ")", n.worst(mask), -1);
        }
        due.answer("12: the least weight above 0", Networks.twelveBetween(0, 1, 15).worst(3), 1);
        due.answer("12: twelve down", Networks.twelveBetween(0, 1, 1).worst(3), 129746337890625L);
    }

    private static void worstState() {
        NetworkStates n = new NetworkStates();
        n.link(0, 1, 12);
        n.link(1, 2, 10);
        due.answer("13: the ends of a path", n.worstState(5), 1);
        due.answer("13: two nodes", n.worstState(3), 2);
        due.answer("13: nodes never connected", n.worstState(24), 3);
        due.answer("13: no node", n.worstState(0), -2);
        due.answer("13: one node", n.worstState(4), -2);
        n.hold(0, 0);
        due.answer("13: one held down", n.worstState(5), 2);
        n.hold(0, 1);
        due.answer("13: a held edge has its digit", n.worstState(5), 1);
        n.hold(1, 1);
        due.answer("13: there is no such state", n.worstState(5), -2);
        n.hold(0, 2);
        n.share(0, 16);
        due.answer("13: all such states weigh 0", n.worstState(5), -2);
        n.hold(1, 2);
        n.share(0, 8);
        n.share(1, 8);
        due.answer("13: the least of equal ones", n.worstState(5), 0);
        n.share(0, 9);
        n.share(1, 9);
        due.answer("13: the least of two equal ones", n.worstState(5), 1);
        due.answer("13: the greatest weight first", n.worstState(9), 3);
        int[] noMasks = {-1, 32, LOW, HIGH};
        for (int mask : noMasks) {
            due.answer("13: worstState(" + mask + ")", n.worstState(mask), -1);
        }
        due.answer("13: the least weight above 0", Networks.twelveBetween(0, 1, 15).worstState(3), 0);
        due.answer("13: all twelve up", Networks.twelveBetween(0, 1, 9).worstState(4 + 8), 4095);
    }

    private static void cuts() {
        NetworkStates n = Networks.triangle();
        n.share(0, 0);
        n.hold(1, 1);
        n.hold(2, 0);
        int[] ofThree = {0, 0, 3, 0, 0};
        int[] ofTwo = {0, 0, 2, 0, 0};
        int[] ofApart = {1, 0, 0, 0, 0};
        for (int k = 0; k < 5; k++) {
            due.answer("14: cuts(7, " + k + ")", n.cuts(7, k), ofThree[k]);
            due.answer("14: cuts(3, " + k + ")", n.cuts(3, k), ofTwo[k]);
            due.answer("14: cuts(15, " + k + ")", n.cuts(15, k), ofApart[k]);
            due.answer("14: cuts(0, " + k + ")", n.cuts(0, k), 0);
            due.answer("14: cuts(2, " + k + ")", n.cuts(2, k), 0);
        }
        int[] noCounts = {-1, 13, LOW, HIGH};
        for (int k : noCounts) {
            due.answer("14: cuts(7, " + k + ")", n.cuts(7, k), 0);
            due.answer("14: cuts(32, " + k + ")", n.cuts(32, k), -1);
        }
        int[] noMasks = {-1, 32, LOW, HIGH};
        for (int mask : noMasks) {
            due.answer("14: cuts(" + mask + ", 0)", n.cuts(mask, 0), -1);
        }
        NetworkStates all = Networks.complete();
        due.answer("14: one node from four", all.cuts(31, 4), 5);
        due.answer("14: two nodes from three", all.cuts(31, 6), 10);
        due.answer("14: no five", all.cuts(31, 5), 0);
        due.answer("14: one node from another", all.cuts(3, 4), 2);
        due.answer("14: twelve at once", Networks.twelveBetween(0, 1, 8).cuts(3, 12), 1);
    }

    private static void trees() {
        due.answer("15: triangle", Networks.triangle().trees(), 0);
        NetworkStates n = Networks.complete();
        due.answer("15: ten edges", n.trees(), 125);
        n.link(0, 1, 0);
        due.answer("15: eleven edges", n.trees(), 175);
        n.link(1, 0, 16);
        due.answer("15: twelve edges", n.trees(), 225);
        n.hold(0, 1);
        n.hold(1, 0);
        n.share(2, 0);
        due.answer("15: holds and shares do not matter", n.trees(), 225);
        NetworkStates path = new NetworkStates();
        for (int v = 0; v < 4; v++) {
            path.link(v, v + 1, 8);
        }
        due.answer("15: a path", path.trees(), 1);
        path.link(4, 0, 8);
        due.answer("15: a ring", path.trees(), 5);
    }

    private static void forests() {
        NetworkStates n = Networks.complete();
        int[] ofAll = {1, 10, 45, 110, 125, 0, 0};
        for (int k = 0; k < 7; k++) {
            due.answer("16: forests(" + k + ")", n.forests(k), ofAll[k]);
        }
        n.hold(0, 1);
        n.hold(1, 0);
        n.share(2, 0);
        due.answer("16: holds and shares do not matter", n.forests(3), 110);
        int[] noCounts = {-1, 13, LOW, HIGH};
        for (int k : noCounts) {
            due.answer("16: forests(" + k + ")", n.forests(k), 0);
        }
        NetworkStates full = Networks.twelveBetween(0, 1, 8);
        due.answer("16: one of twelve", full.forests(1), 12);
        due.answer("16: two between the same two nodes", full.forests(2), 0);
        due.answer("16: two of a triangle", Networks.triangle().forests(2), 3);
        due.answer("16: a whole triangle", Networks.triangle().forests(3), 0);
    }

    private static void colourings() {
        NetworkStates n = new NetworkStates();
        int[] ofNone = {0, 1, 32, 243, 1024};
        int[] ofTriangle = {0, 0, 0, 6 * 9, 24 * 16};
        int[] ofAll = {0, 0, 0, 0, 0};
        NetworkStates three = Networks.triangle();
        NetworkStates all = Networks.complete();
        for (int q = 0; q < 5; q++) {
            due.answer("17: no edge, " + q, n.colourings(q), ofNone[q]);
            due.answer("17: triangle, " + q, three.colourings(q), ofTriangle[q]);
            due.answer("17: all edges, " + q, all.colourings(q), ofAll[q]);
        }
        int[] noCounts = {-1, 5, LOW, HIGH};
        for (int q : noCounts) {
            due.answer("17: colourings(" + q + ")", n.colourings(q), -1);
        }
        three.hold(0, 0);
        three.share(1, 0);
        due.answer("17: holds and shares do not matter", three.colourings(3), 54);
        due.answer("17: twelve edges are as one", Networks.twelveBetween(3, 4, 8).colourings(3), 162);
        all.unlink(9);
        due.answer("17: all edges but one", all.colourings(4), 24);
    }

    private static void polynomial() {
        NetworkStates three = Networks.triangle();
        NetworkStates all = Networks.complete();
        NetworkStates full = Networks.twelveBetween(0, 1, 8);
        three.hold(0, 0);
        three.share(1, 0);
        for (int x = -3; x <= 3; x++) {
            for (int y = -3; y <= 3; y++) {
                String call = "18: polynomial(" + x + ", " + y + ")";
                int ofThree = (x + 1) * (x + 1) + (x + 1) + (y + 1);
                due.answer(call + " of a triangle", three.polynomial(x, y), ofThree);
                int ofFull = x + 1;
                int power = 1;
                for (int i = 1; i < 12; i++) {
                    power *= y + 1;
                    ofFull += power;
                }
                due.answer(call + " of twelve edges", full.polynomial(x, y), ofFull);
            }
        }
        NetworkStates path = new NetworkStates();
        for (int v = 0; v < 4; v++) {
            path.link(v, v + 1, 8);
        }
        due.answer("18: a path", path.polynomial(2, -3), 81);
        due.answer("18: a path, x -3", path.polynomial(-3, 3), 16);
        due.answer("18: trees", all.polynomial(0, 0), 125);
        due.answer("18: sets of edges", all.polynomial(1, 1), 1024);
        due.answer("18: forests", all.polynomial(1, 0), 1 + 10 + 45 + 110 + 125);
        int[] noBases = {-4, 4, LOW, HIGH};
        for (int base : noBases) {
            due.answer("18: x " + base, all.polynomial(base, 0), NO_POLYNOMIAL);
            due.answer("18: y " + base, all.polynomial(0, base), NO_POLYNOMIAL);
            due.answer("18: x and y " + base, all.polynomial(base, base), NO_POLYNOMIAL);
        }
    }

    private static void refusedCallsChangeNothing() {
        NetworkStates n = new NetworkStates();
        n.link(0, 1, 5);
        n.link(1, 2, 6);
        n.hold(1, 1);
        n.link(0, 0, 1);
        n.link(0, 1, 17);
        n.unlink(2);
        n.unlink(-1);
        n.share(0, 17);
        n.share(2, 1);
        n.hold(1, 3);
        n.hold(2, 0);
        due.answer("refused: weight(7)", n.weight(7), ALL / 16 * 5);
        due.answer("refused: hold(0, 2)", n.hold(0, 2), 2);
        due.answer("refused: hold(1, 2)", n.hold(1, 2), 1);
        due.answer("refused: share(0, 0)", n.share(0, 0), 5);
        due.answer("refused: share(1, 0)", n.share(1, 0), 6);
        due.answer("refused: clear()", n.clear(), 2);
    }

    private static void questionsChangeNothing() {
        NetworkStates n = Networks.triangle();
        n.hold(0, 1);
        n.share(1, 3);
        for (int time = 0; time < 2; time++) {
            due.answer("asked: weight", n.weight(7), ALL / 16 * 3 + ALL / 32 * 13);
            due.answer("asked: states", n.states(7, 2), 2);
            due.answer("asked: parts", n.parts(4), ALL / 32 * 13);
            due.answer("asked: pairs", n.pairs(), ALL / 32 * (13 + 19 * 3));
            due.answer("asked: pivotal", n.pivotal(7, 2), ALL / 256 * 13);
            due.answer("asked: worst", n.worst(7), ALL / 32 * 13);
            due.answer("asked: worstState", n.worstState(7), 1);
            due.answer("asked: cuts", n.cuts(7, 2), 3);
            due.answer("asked: trees", n.trees(), 0);
            due.answer("asked: forests", n.forests(2), 3);
            due.answer("asked: colourings", n.colourings(3), 54);
            due.answer("asked: polynomial", n.polynomial(2, 3), 16);
        }
        due.answer("asked: clear", n.clear(), 3);
    }

    private static void objectsAreApart() {
        NetworkStates one = new NetworkStates();
        NetworkStates other = Networks.triangle();
        due.answer("apart: link", one.link(3, 4, 16), 0);
        due.answer("apart: the other", other.weight(24), 0);
        due.answer("apart: clear", one.clear(), 1);
        due.answer("apart: the other still", other.weight(7), ALL / 2);
    }
}
