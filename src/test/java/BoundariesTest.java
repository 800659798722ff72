/**
 * The boundaries that promises 1 to 18 name: a method for each sentence or half sentence, with it
 * above. Each takes the numbers just inside and just outside, and the least and greatest int.
 */
public final class BoundariesTest {
    private static final long ALL = Networks.ALL;
    private static final int LOW = Networks.LOW;
    private static final int HIGH = Networks.HIGH;
    /** Counts that no set of edges has; among them such as a shift by 5 bits would fold. */
    private static final int[] NO_COUNTS = {LOW, LOW + 1, -32, -1, 13, 32, 33, 64, 4096, HIGH};

    private static final Due due = new Due();

    public static void main(String[] args) {
        newObjectHasNoEdges();
        linkPutsAFreeEdge();
        linkNeedsTwoNodes();
        linkNeedsAShare();
        linkNeedsRoom();
        linkAnswersItsNumber();
        unlinkLowersGreaterNumbers();
        unlinkNeedsAnEdge();
        unlinkAnswersHowManyAreLeft();
        shareGivesAnotherShare();
        shareNeedsAnEdge();
        shareNeedsAShare();
        holdHoldsAndFrees();
        holdNeedsAnEdge();
        holdNeedsAHow();
        clearTakesAllEdges();
        clearLeavesNothing();
        weightFromNothingToAll();
        statesOfACountThatNoStateHas();
        statesOfTheLeastAndGreatestCount();
        partsOfACountThatNoStateHas();
        partsFromOneToFive();
        pairsFromNoneToAll();
        pivotalNeedsAnEdge();
        pivotalTestsTheMaskFirst();
        pivotalIsWithoutTheWeightOfItsEdge();
        pivotalHasSixteenForEveryEdgeFewer();
        pivotalFromNothingToAll();
        worstWhereThereIsNone();
        worstWhereAllWeighNothing();
        worstFromLeastToGreatest();
        worstStateIsTheLeastOfEqualOnes();
        worstStateIsTheWeightiest();
        cutsOfNodesThatAreApart();
        cutsWithEachOneUpAgain();
        cutsOfCounts();
        cutsOfFewerThanTwoNodes();
        treesNeedFourEdges();
        treesWithEachOneDown();
        forestsOfCounts();
        forestsHaveNoClosedWay();
        colouringsOfCounts();
        colouringsWithNoneAndOne();
        polynomialOfBases();
        polynomialWithExponentZero();
        polynomialOfNodesApart();
        polynomialOfGreatAnswers();
        due.end();
    }

    /** 1: No edges. */
    private static void newObjectHasNoEdges() {
        int[] numbers = {LOW, -1, 0, 1, 11, 12, HIGH};
        NetworkStates n = new NetworkStates();
        for (int i : numbers) {
            due.answer("1: unlink(" + i + ")", n.unlink(i), -1);
            due.answer("1: share(" + i + ", 8)", n.share(i, 8), -1);
            due.answer("1: hold(" + i + ", 1)", n.hold(i, 1), -1);
            due.answer("1: pivotal(31, " + i + ")", n.pivotal(31, i), -2);
        }
        due.answer("1: states(0, 0)", n.states(0, 0), 1);
        due.answer("1: states(0, 1)", n.states(0, 1), 0);
        due.answer("1: clear()", n.clear(), 0);
        due.answer("1: the first edge", new NetworkStates().link(0, 1, 8), 0);
    }

    /** 2: Puts an edge, free, with a share. */
    private static void linkPutsAFreeEdge() {
        for (int how = 0; how <= 1; how++) {
            NetworkStates n = Networks.between(0, 1, 3, 1);
            due.answer("2: a new edge was free", n.hold(0, how), 2);
            n.clear();
            n.link(2, 3, 9);
            due.answer("2: a new edge after clear is free", n.hold(0, how), 2);
            due.answer("2: and has its own share", n.share(0, 4), 9);
            n.unlink(0);
            n.link(3, 4, 16);
            due.answer("2: a new edge after unlink is free", n.hold(0, 2), 2);
            due.answer("2: and has its own nodes", n.weight(24), ALL);
        }
        NetworkStates full = Networks.twelveBetween(0, 1, 3);
        full.hold(11, 0);
        full.unlink(11);
        full.link(0, 1, 5);
        due.answer("2: a new twelfth edge is free", full.hold(11, 1), 2);
        due.answer("2: and has its own share", full.share(11, 5), 5);
    }

    /** 2: a or b is not 0 to 4, or they are the same: -1. */
    private static void linkNeedsTwoNodes() {
        int[] inside = {0, 4};
        for (int good : inside) {
            for (int bad : Networks.NO_NODES) {
                due.answer("2: link(" + bad + ", " + good + ", 8)", Networks.none().link(bad, good, 8), -1);
                due.answer("2: link(" + good + ", " + bad + ", 8)", Networks.none().link(good, bad, 8), -1);
                due.answer("2: link(" + bad + ", " + bad + ", 8)", Networks.none().link(bad, bad, 8), -1);
            }
            due.answer("2: link(" + good + ", " + good + ", 8)", Networks.none().link(good, good, 8), -1);
            due.answer("2: link(" + good + ", " + (4 - good) + ", 8)",
                    Networks.none().link(good, 4 - good, 8), 0);
        }
    }

    /** 2: share is not 0 to 16: -2. */
    private static void linkNeedsAShare() {
        for (int bad : Networks.NO_SHARES) {
            due.answer("2: link(0, 4, " + bad + ")", Networks.none().link(0, 4, bad), -2);
        }
        due.answer("2: link(0, 4, 0)", Networks.none().link(0, 4, 0), 0);
        due.answer("2: link(0, 4, 16)", Networks.none().link(0, 4, 16), 0);
    }

    /** 2: there are 12 edges: -3. */
    private static void linkNeedsRoom() {
        NetworkStates n = Networks.between(1, 2, 8, 11);
        due.answer("2: with 11 edges", n.link(1, 2, 8), 11);
        due.answer("2: with 12 edges", n.link(1, 2, 8), -3);
        due.answer("2: with 12 edges again", n.link(1, 2, 8), -3);
        due.answer("2: unlink(5)", n.unlink(5), 11);
        due.answer("2: with 11 edges again", n.link(1, 2, 8), 11);
        due.answer("2: and then with 12", n.link(1, 2, 8), -3);
        n.clear();
        due.answer("2: with none", n.link(1, 2, 8), 0);
    }

    /** 2: Else answers its number. */
    private static void linkAnswersItsNumber() {
        NetworkStates n = Networks.none();
        for (int i = 0; i < 12; i++) {
            due.answer("2: number " + i, n.link(i % 5, (i + 1) % 5, i), i);
            due.answer("2: edge " + i + " has its share", n.share(i, i), i);
        }
        n.unlink(0);
        n.unlink(0);
        due.answer("2: after two went", n.link(0, 1, 16), 10);
        due.answer("2: edge 10 has its share", n.share(10, 16), 16);
        due.answer("2: edge 9 has its share", n.share(9, 11), 11);
    }

    /** 3: Takes edge i away; those with greater numbers get numbers less by one. */
    private static void unlinkLowersGreaterNumbers() {
        for (int i = 0; i < 12; i++) {
            NetworkStates n = Networks.twelveMixed();
            due.answer("3: unlink(" + i + ")", n.unlink(i), 11);
            due.same("3: all but edge " + i, ReadOut.of(n), ReadOut.of(Networks.twelveMixedWithout(i)));
        }
        NetworkStates two = Networks.twelveMixed();
        two.unlink(11);
        two.unlink(0);
        NetworkStates other = Networks.twelveMixedWithout(0);
        other.unlink(10);
        due.same("3: the last and the first", ReadOut.of(two), ReadOut.of(other));
    }

    /** 3: There is none: -1. */
    private static void unlinkNeedsAnEdge() {
        for (int edges = 0; edges <= 12; edges++) {
            NetworkStates n = Networks.between(0, 1, 8, edges);
            int[] none = {LOW, LOW + edges, -2, -1, edges, edges + 1, 12, 13, 32, HIGH};
            for (int i : none) {
                due.answer("3: unlink(" + i + ") of " + edges, n.unlink(i), -1);
            }
            if (edges > 0) {
                due.answer("3: unlink(last) of " + edges, n.unlink(edges - 1), edges - 1);
                due.answer("3: unlink(last) again", n.unlink(edges - 1), -1);
            }
        }
    }

    /** 3: Else answers how many are left. */
    private static void unlinkAnswersHowManyAreLeft() {
        NetworkStates n = Networks.twelveMixed();
        for (int left = 11; left >= 0; left--) {
            due.answer("3: left", n.unlink(left / 2), left);
        }
        due.answer("3: none is left", n.unlink(0), -1);
        due.answer("3: no edge to clear", n.clear(), 0);
    }

    /** 4: Gives edge i another share. Else answers the share it had. */
    private static void shareGivesAnotherShare() {
        NetworkStates n = Networks.twelveBetween(0, 1, 8);
        for (int i = 0; i < 12; i += 11) {
            due.answer("4: share(" + i + ", 0)", n.share(i, 0), 8);
            due.answer("4: share(" + i + ", 16)", n.share(i, 16), 0);
            due.answer("4: share(" + i + ", 16) again", n.share(i, 16), 16);
            due.answer("4: it counts", n.worst(3), 0);
            due.answer("4: share(" + i + ", 15)", n.share(i, 15), 16);
            due.answer("4: it counts", n.worst(3), Networks.power(8, 11));
            due.answer("4: share(" + i + ", 8)", n.share(i, 8), 15);
        }
        for (int i = 0; i < 12; i++) {
            due.answer("4: share of edge " + i, n.share(i, i), 8);
        }
        for (int i = 0; i < 12; i++) {
            due.answer("4: new share of edge " + i, n.share(i, 8), i);
        }
    }

    /** 4: There is none: -1. */
    private static void shareNeedsAnEdge() {
        for (int edges = 0; edges <= 12; edges++) {
            NetworkStates n = Networks.between(0, 1, 8, edges);
            int[] none = {LOW, LOW + edges, -2, -1, edges, edges + 1, 12, 13, 32, HIGH};
            for (int i : none) {
                due.answer("4: share(" + i + ", 8) of " + edges, n.share(i, 8), -1);
            }
            if (edges > 0) {
                due.answer("4: share(0, 8) of " + edges, n.share(0, 8), 8);
                due.answer("4: share(last, 8) of " + edges, n.share(edges - 1, 8), 8);
                n.unlink(0);
                due.answer("4: share(last, 8) afterwards", n.share(edges - 1, 8), -1);
            }
        }
    }

    /** 4: share is not 0 to 16: -2. */
    private static void shareNeedsAShare() {
        for (int edges = 1; edges <= 12; edges += 11) {
            NetworkStates n = Networks.between(0, 1, 8, edges);
            for (int bad : Networks.NO_SHARES) {
                due.answer("4: share(0, " + bad + ")", n.share(0, bad), -2);
                due.answer("4: share(last, " + bad + ")", n.share(edges - 1, bad), -2);
            }
            due.answer("4: share(last, 0)", n.share(edges - 1, 0), 8);
            due.answer("4: share(last, 16)", n.share(edges - 1, 16), 0);
            due.answer("4: share(last, 8)", n.share(edges - 1, 8), 16);
        }
    }

    /** 5: Holds edge i up (1) or down (0), or makes it free (2). Else answers how it was. */
    private static void holdHoldsAndFrees() {
        for (int from = 0; from <= 2; from++) {
            for (int to = 0; to <= 2; to++) {
                for (int i = 0; i < 12; i += 11) {
                    NetworkStates n = Networks.twelveBetween(0, 1, 8);
                    n.hold(i, from);
                    due.answer("5: hold(" + i + ", " + to + ")", n.hold(i, to), from);
                    due.answer("5: none up, how " + to, n.states(0, 0), to == 1 ? 0 : 1);
                    due.answer("5: all up, how " + to, n.states(0, 12), to == 0 ? 0 : 1);
                    due.answer("5: its share is kept", n.share(i, 8), 8);
                    due.answer("5: how it was", n.hold(i, 2), to);
                }
            }
        }
        NetworkStates n = Networks.twelveBetween(0, 1, 8);
        for (int i = 0; i < 12; i++) {
            due.answer("5: edge " + i + " was free", n.hold(i, i % 3), 2);
        }
        for (int i = 0; i < 12; i++) {
            due.answer("5: edge " + i + " is held by itself", n.hold(i, 0), i % 3);
        }
    }

    /** 5: There is none: -1. */
    private static void holdNeedsAnEdge() {
        for (int edges = 0; edges <= 12; edges++) {
            NetworkStates n = Networks.between(0, 1, 8, edges);
            int[] none = {LOW, LOW + edges, -2, -1, edges, edges + 1, 12, 13, 32, HIGH};
            for (int i : none) {
                due.answer("5: hold(" + i + ", 1) of " + edges, n.hold(i, 1), -1);
            }
            if (edges > 0) {
                due.answer("5: hold(0, 2) of " + edges, n.hold(0, 2), 2);
                due.answer("5: hold(last, 1) of " + edges, n.hold(edges - 1, 1), 2);
                n.unlink(0);
                due.answer("5: hold(last, 1) afterwards", n.hold(edges - 1, 1), -1);
            }
        }
    }

    /** 5: how is not 0 to 2: -2. */
    private static void holdNeedsAHow() {
        for (int edges = 1; edges <= 12; edges += 11) {
            NetworkStates n = Networks.between(0, 1, 8, edges);
            for (int bad : Networks.NO_HOWS) {
                due.answer("5: hold(0, " + bad + ")", n.hold(0, bad), -2);
                due.answer("5: hold(last, " + bad + ")", n.hold(edges - 1, bad), -2);
            }
            due.answer("5: hold(last, 0)", n.hold(edges - 1, 0), 2);
            due.answer("5: hold(last, 2)", n.hold(edges - 1, 2), 0);
        }
    }

    /** 6: Takes all edges away. Answers how many there were. */
    private static void clearTakesAllEdges() {
        for (int edges = 0; edges <= 12; edges++) {
            for (int how = 0; how <= 2; how++) {
                NetworkStates n = Networks.between(0, 1, 15, edges);
                for (int i = 0; i < edges; i++) {
                    n.hold(i, how);
                }
                String which = "6: " + edges + " edges, how " + how;
                due.answer(which + ": clear()", n.clear(), edges);
                due.answer(which + ": clear() again", n.clear(), 0);
                due.same(which + ": as a new one", ReadOut.of(n), ReadOut.of(Networks.none()));
            }
        }
    }

    /** What went away has no weight, no hold and no nodes any more where a new edge is put. */
    private static void clearLeavesNothing() {
        for (int how = 0; how <= 2; how++) {
            NetworkStates n = Networks.twelveBetween(3, 4, 15);
            n.hold(0, how);
            n.hold(1, how);
            n.clear();
            due.answer("6: the next edge", n.link(0, 1, 8), 0);
            due.same("6: as one with one edge", ReadOut.of(n), ReadOut.of(Networks.between(0, 1, 8, 1)));
        }
    }

    /** 7: The sum of the weights of all states that connect the set of nodes. */
    private static void weightFromNothingToAll() {
        due.answer("7: no edges", Networks.none().weight(31), 0);
        due.answer("7: no edges, mask 0", Networks.none().weight(0), ALL);
        due.answer("7: a path that is up", Networks.path(16).weight(31), ALL);
        due.answer("7: a path that is down", Networks.path(0).weight(31), 0);
        due.answer("7: all but a state of weight 1", Networks.twelveBetween(0, 1, 15).weight(3), ALL - 1);
        due.answer("7: the least of a path", Networks.path(1).weight(31), Networks.power(16, 8));
        due.answer("7: 728 of 1024 equal states", Networks.complete().weight(31), ALL / 1024 * 728);
    }

    /** 8: 0 for a k that no state has. */
    private static void statesOfACountThatNoStateHas() {
        for (int edges = 0; edges <= 12; edges++) {
            NetworkStates n = Networks.between(0, 1, 8, edges);
            for (int k : NO_COUNTS) {
                due.answer("8: states(0, " + k + ") of " + edges, n.states(0, k), 0);
                due.answer("8: states(3, " + k + ") of " + edges, n.states(3, k), 0);
            }
            for (int k = edges + 1; k <= 13; k++) {
                due.answer("8: " + k + ", more than there are", n.states(0, k), 0);
                due.answer("8: " + k + ", more than connect", n.states(3, k), 0);
            }
        }
        NetworkStates held = Networks.threeMixed();
        due.answer("8: fewer than are held up", held.states(0, 0), 0);
        due.answer("8: as many as are held up", held.states(0, 1), 1);
        due.answer("8: as many as are not held down", held.states(0, 2), 1);
        due.answer("8: more than are not held down", held.states(0, 3), 0);
    }

    /** 8: exactly k edges up. */
    private static void statesOfTheLeastAndGreatestCount() {
        for (int edges = 0; edges <= 12; edges++) {
            NetworkStates n = Networks.between(0, 1, 8, edges);
            due.answer("8: none of " + edges + " up", n.states(0, 0), 1);
            due.answer("8: all of " + edges + " up", n.states(0, edges), 1);
            due.answer("8: none up connects nothing", n.states(3, 0), 0);
            due.answer("8: all up", n.states(3, edges), edges == 0 ? 0 : 1);
        }
        NetworkStates path = Networks.path(8);
        due.answer("8: three of a path", path.states(31, 3), 0);
        due.answer("8: four of a path", path.states(31, 4), 1);
        due.answer("8: five of a path", path.states(31, 5), 0);
        NetworkStates ring = Networks.ring(8);
        due.answer("8: three of a ring", ring.states(31, 3), 0);
        due.answer("8: four of a ring", ring.states(31, 4), 5);
        due.answer("8: five of a ring", ring.states(31, 5), 1);
    }

    /** 9: 0 for a k that no state has. */
    private static void partsOfACountThatNoStateHas() {
        int[] noParts = {LOW, LOW + 1, -32, -1, 0, 6, 12, 32, 33, 37, HIGH};
        for (int k : noParts) {
            due.answer("9: parts(" + k + ") of none", Networks.none().parts(k), 0);
            due.answer("9: parts(" + k + ") of all", Networks.complete().parts(k), 0);
            due.answer("9: parts(" + k + ") of twelve", Networks.twelveMixed().parts(k), 0);
        }
        for (int k = 1; k <= 4; k++) {
            due.answer("9: parts(" + k + ") without edges", Networks.none().parts(k), 0);
        }
        due.answer("9: parts(2) of a triangle", Networks.triangle().parts(2), 0);
        due.answer("9: parts(3) of a triangle", Networks.triangle().parts(3), ALL / 2);
    }

    /** 9: exactly k parts. */
    private static void partsFromOneToFive() {
        NetworkStates n = Networks.path(8);
        for (int k = 1; k <= 5; k++) {
            due.answer("9: parts(" + k + ") of a path", n.parts(k), ALL / 16 * Networks.choose(4, k - 1));
        }
        NetworkStates up = Networks.path(16);
        due.answer("9: one part", up.parts(1), ALL);
        due.answer("9: states of weight 0", up.parts(2), 0);
        due.answer("9: five parts", Networks.path(0).parts(5), ALL);
    }

    /** 10: the number of pairs of different nodes (each pair counted once). */
    private static void pairsFromNoneToAll() {
        due.answer("10: no edges", Networks.none().pairs(), 0);
        due.answer("10: all down", Networks.path(0).pairs(), 0);
        due.answer("10: all up", Networks.path(16).pairs(), 10 * ALL);
        due.answer("10: all up in a ring", Networks.ring(16).pairs(), 10 * ALL);
        due.answer("10: twelve edges, one pair", Networks.twelveBetween(0, 4, 16).pairs(), ALL);
        NetworkStates n = Networks.none();
        long[] pairs = {1, 3, 6, 10};
        for (int v = 0; v < 4; v++) {
            n.link(v, v + 1, 16);
            due.answer("10: " + (v + 2) + " nodes", n.pairs(), pairs[v] * ALL);
        }
        due.answer("10: a state of weight 1 has no pair", Networks.twelveBetween(0, 1, 15).pairs(), ALL - 1);
    }

    /** 11: There is no edge i: -2. */
    private static void pivotalNeedsAnEdge() {
        for (int edges = 0; edges <= 12; edges++) {
            NetworkStates n = Networks.between(0, 1, 0, edges);
            int[] none = {LOW, LOW + edges, -32, -1, edges, edges + 1, 12, 13, 32, 33, HIGH};
            for (int i : none) {
                due.answer("11: pivotal(3, " + i + ") of " + edges, n.pivotal(3, i), -2);
                due.answer("11: pivotal(0, " + i + ") of " + edges, n.pivotal(0, i), -2);
            }
            if (edges > 0) {
                due.answer("11: pivotal(3, 0) of " + edges, n.pivotal(3, 0), ALL / 16);
                due.answer("11: pivotal(3, last) of " + edges, n.pivotal(3, edges - 1), ALL / 16);
            }
        }
    }

    /** 11: after the mask is tested. */
    private static void pivotalTestsTheMaskFirst() {
        int[] none = {LOW, -1, 3, 12, HIGH};
        for (int mask : Networks.NO_MASKS) {
            for (int i : none) {
                due.answer("11: pivotal(" + mask + ", " + i + ")", Networks.triangle().pivotal(mask, i), -1);
            }
        }
        for (int i : none) {
            due.answer("11: pivotal(0, " + i + ")", Networks.triangle().pivotal(0, i), -2);
            due.answer("11: pivotal(31, " + i + ")", Networks.triangle().pivotal(31, i), -2);
        }
    }

    /** 11: counted without the weight of edge i (for an edge that is held, or held nowhere, alike). */
    private static void pivotalIsWithoutTheWeightOfItsEdge() {
        for (int how = 0; how <= 2; how++) {
            for (int u = 0; u <= 16; u++) {
                NetworkStates n = Networks.ring(8);
                n.share(4, u);
                n.hold(4, how);
                due.answer("11: share " + u + ", how " + how, n.pivotal(31, 4), ALL / 16 / 16 * 4);
                due.answer("11: its own nodes, share " + u + ", how " + how,
                        n.pivotal(17, 4), ALL / 16 / 16 * 15);
            }
        }
    }

    /** 11: with the weights that these have and 16 for every edge fewer than 12 that there is. */
    private static void pivotalHasSixteenForEveryEdgeFewer() {
        for (int edges = 1; edges <= 12; edges++) {
            NetworkStates n = Networks.between(0, 1, 15, edges);
            due.answer("11: one of " + edges, n.pivotal(3, edges - 1), Networks.power(16, 12 - edges));
        }
        NetworkStates full = Networks.twelveBetween(0, 1, 15);
        for (int held = 1; held <= 11; held++) {
            full.hold(held, 0);
            due.answer("11: " + held + " others held down", full.pivotal(3, 0), Networks.power(16, held));
        }
        full.hold(11, 1);
        due.answer("11: another is held up", full.pivotal(3, 0), 0);
    }

    /** 11: which connect the set if edge i is put up, and do not if it is put down. */
    private static void pivotalFromNothingToAll() {
        NetworkStates path = Networks.path(16);
        for (int i = 0; i < 4; i++) {
            due.answer("11: each of a path", path.pivotal(31, i), ALL / 16);
        }
        due.answer("11: not on the way", path.pivotal(3, 1), 0);
        NetworkStates ring = Networks.ring(16);
        due.answer("11: connected without it", ring.pivotal(31, 0), 0);
        path.hold(3, 0);
        due.answer("11: not connected with it", path.pivotal(31, 0), 0);
        due.answer("11: the one that is held down", path.pivotal(31, 3), ALL / 16);
    }

    /** 12: 0 if there is none. 13: else -2. */
    private static void worstWhereThereIsNone() {
        for (int mask : Networks.FEWER_THAN_TWO) {
            noWorst("mask " + mask, Networks.twelveMixed(), mask);
        }
        NetworkStates up = Networks.path(8);
        for (int i = 0; i < 4; i++) {
            due.answer("12: edge " + i + " is free", up.worst(31) > 0 ? 1 : 0, 1);
            up.hold(i, 1);
        }
        noWorst("all held up", up, 31);
        up.hold(3, 2);
        due.answer("12: one free again", up.worst(31), ALL / 2);
        due.answer("13: one free again", up.worstState(31), 7);
    }

    /** 12: 0 if all have weight 0. 13: else -2. */
    private static void worstWhereAllWeighNothing() {
        noWorst("a path", Networks.path(16), 31);
        noWorst("two nodes of a path", Networks.path(16), 17);
        noWorst("twelve edges", Networks.twelveBetween(0, 1, 16), 3);
        NetworkStates n = Networks.twelveBetween(0, 1, 0);
        n.share(11, 16);
        noWorst("one of share 16 among such of 0", n, 3);
        n.share(11, 15);
        due.answer("12: weight above 0", n.worst(3), Networks.power(16, 11));
        due.answer("13: weight above 0", n.worstState(3), 0);
    }

    private static void noWorst(String which, NetworkStates n, int mask) {
        due.answer("12: " + which, n.worst(mask), 0);
        due.answer("13: " + which, n.worstState(mask), -2);
    }

    /** 12: The greatest weight of a state that does not connect the set of nodes. */
    private static void worstFromLeastToGreatest() {
        due.answer("12: weight 1", Networks.twelveBetween(0, 1, 15).worst(3), 1);
        due.answer("13: weight 1", Networks.twelveBetween(0, 1, 15).worstState(3), 0);
        due.answer("12: all of it", Networks.none().worst(31), ALL);
        due.answer("13: all of it", Networks.none().worstState(31), 0);
        due.answer("12: all of it with twelve", Networks.twelveBetween(0, 1, 0).worst(3), ALL);
        due.answer("12: all up, other nodes", Networks.twelveBetween(0, 1, 16).worst(6), ALL);
        due.answer("13: all up, other nodes", Networks.twelveBetween(0, 1, 16).worstState(6), 4095);
    }

    /** 13: The least number of a state that has the weight worst(mask). */
    private static void worstStateIsTheLeastOfEqualOnes() {
        due.answer("13: all states equal", Networks.twelveBetween(0, 1, 8).worstState(24), 0);
        due.answer("13: one of a path down", Networks.path(9).worstState(31), 7);
        NetworkStates n = Networks.path(9);
        n.hold(3, 1);
        due.answer("13: the last is held up", n.worstState(31), 11);
        n.hold(3, 0);
        due.answer("13: the last is held down", n.worstState(31), 7);
        n.share(0, 8);
        due.answer("13: equal in the last digit", n.worstState(31), 6);
    }

    /** 13: has the weight worst(mask). */
    private static void worstStateIsTheWeightiest() {
        for (int i = 0; i < 4; i++) {
            NetworkStates n = Networks.path(12);
            n.share(i, 11);
            due.answer("13: edge " + i + " goes down", n.worstState(31), 15 - (1 << i));
            due.answer("12: edge " + i + " goes down", n.worst(31), Networks.power(16, 8) * 5 * 12 * 12 * 12);
        }
    }

    /** 14: So, if it is not connected with all edges up, just the empty set is one, for k = 0. */
    private static void cutsOfNodesThatAreApart() {
        for (int k = -1; k <= 13; k++) {
            due.answer("14: no edges, k " + k, Networks.none().cuts(31, k), k == 0 ? 1 : 0);
            due.answer("14: a triangle, k " + k, Networks.triangle().cuts(9, k), k == 0 ? 1 : 0);
            due.answer("14: all nodes, k " + k, Networks.triangle().cuts(31, k), k == 0 ? 1 : 0);
            due.answer("14: twelve edges, k " + k,
                    Networks.twelveBetween(0, 1, 8).cuts(5, k), k == 0 ? 1 : 0);
        }
    }

    /** 14: but is if any one of them is up again. */
    private static void cutsWithEachOneUpAgain() {
        NetworkStates path = Networks.path(8);
        int[] ofNeighbours = {0, 1, 0, 0, 0};
        int[] ofAll = {0, 4, 0, 0, 0};
        for (int k = 0; k <= 4; k++) {
            due.answer("14: two neighbours, k " + k, path.cuts(3, k), ofNeighbours[k]);
            due.answer("14: a whole path, k " + k, path.cuts(31, k), ofAll[k]);
        }
    }

    /** 14: sets of exactly k edges. */
    private static void cutsOfCounts() {
        for (int edges = 1; edges <= 12; edges++) {
            NetworkStates n = Networks.between(2, 4, 8, edges);
            due.answer("14: none of " + edges, n.cuts(20, 0), 0);
            due.answer("14: all but one of " + edges, n.cuts(20, edges - 1), 0);
            due.answer("14: all of " + edges, n.cuts(20, edges), 1);
            for (int k = edges + 1; k <= 13; k++) {
                due.answer("14: " + k + ", more than " + edges, n.cuts(20, k), 0);
            }
            for (int k : NO_COUNTS) {
                due.answer("14: cuts(20, " + k + ") of " + edges, n.cuts(20, k), 0);
                due.answer("14: cuts(3, " + k + ") of " + edges, n.cuts(3, k), 0);
                due.answer("14: cuts(32, " + k + ") of " + edges, n.cuts(32, k), -1);
                due.answer("14: cuts(-1, " + k + ") of " + edges, n.cuts(-1, k), -1);
            }
        }
    }

    private static void cutsOfFewerThanTwoNodes() {
        for (int mask : Networks.FEWER_THAN_TWO) {
            for (int k = -1; k <= 13; k++) {
                due.answer("14: cuts(" + mask + ", " + k + ") of none", Networks.none().cuts(mask, k), 0);
                due.answer("14: cuts(" + mask + ", " + k + ") of a path", Networks.path(8).cuts(mask, k), 0);
            }
        }
    }

    /** 15: all five nodes are connected. */
    private static void treesNeedFourEdges() {
        NetworkStates n = Networks.none();
        due.answer("15: no edges", n.trees(), 0);
        int[] trees = {0, 0, 0, 1, 5};
        for (int v = 0; v < 5; v++) {
            n.link(v, (v + 1) % 5, 8);
            due.answer("15: " + (v + 1) + " edges", n.trees(), trees[v]);
        }
        due.answer("15: a node without edges", Networks.triangle().trees(), 0);
        due.answer("15: twelve edges, nodes apart", Networks.twelveBetween(0, 1, 8).trees(), 0);
        NetworkStates tripled = Networks.none();
        for (int i = 0; i < 12; i++) {
            tripled.link(i % 4, i % 4 + 1, 8);
        }
        due.answer("15: a path, each edge three times", tripled.trees(), 81);
    }

    /** 15: and are not if any one of them is down. */
    private static void treesWithEachOneDown() {
        NetworkStates n = Networks.path(8);
        n.link(0, 1, 8);
        due.answer("15: one edge of a path twice", n.trees(), 2);
        n.link(0, 1, 8);
        due.answer("15: one edge of a path three times", n.trees(), 3);
    }

    /** 16: sets of exactly k edges. */
    private static void forestsOfCounts() {
        for (int edges = 0; edges <= 12; edges++) {
            NetworkStates n = Networks.between(1, 4, 8, edges);
            due.answer("16: the empty set of " + edges, n.forests(0), 1);
            due.answer("16: one of " + edges, n.forests(1), edges);
            due.answer("16: two of " + edges, n.forests(2), 0);
            for (int k : NO_COUNTS) {
                due.answer("16: forests(" + k + ") of " + edges, n.forests(k), 0);
            }
        }
        NetworkStates path = Networks.path(8);
        due.answer("16: a whole path", path.forests(4), 1);
        for (int k = 5; k <= 13; k++) {
            due.answer("16: " + k + ", more than a path", path.forests(k), 0);
            due.answer("16: " + k + " of ten", Networks.complete().forests(k), 0);
        }
        due.answer("16: four of ten", Networks.complete().forests(4), 125);
    }

    /** 16: no way along different edges that comes back to where it began. */
    private static void forestsHaveNoClosedWay() {
        due.answer("16: one edge to and fro is none", Networks.between(0, 1, 8, 1).forests(1), 1);
        due.answer("16: two edges to and fro are one", Networks.between(0, 1, 8, 2).forests(2), 0);
        due.answer("16: two of a triangle", Networks.triangle().forests(2), 3);
        due.answer("16: a triangle", Networks.triangle().forests(3), 0);
        NetworkStates ring = Networks.ring(8);
        due.answer("16: four of a ring", ring.forests(4), 5);
        due.answer("16: a ring", ring.forests(5), 0);
        NetworkStates apart = Networks.triangle();
        apart.link(3, 4, 8);
        due.answer("16: an edge apart from a triangle, three", apart.forests(3), 3);
        due.answer("16: an edge apart from a triangle, all", apart.forests(4), 0);
    }

    /** 17: q is not 0 to 4: -1. */
    private static void colouringsOfCounts() {
        int[] bad = {LOW, LOW + 4, -32, -1, 5, 6, 32, 36, HIGH};
        for (int q : bad) {
            due.answer("17: colourings(" + q + ") of none", Networks.none().colourings(q), -1);
            due.answer("17: colourings(" + q + ") of a path", Networks.path(8).colourings(q), -1);
            due.answer("17: colourings(" + q + ") of all", Networks.complete().colourings(q), -1);
        }
        for (int q = 0; q <= 4; q++) {
            due.answer("17: no edges, q " + q, Networks.none().colourings(q), Networks.power(q, 5));
            long ofPath = q == 0 ? 0 : q * Networks.power(q - 1, 4);
            due.answer("17: a path, q " + q, Networks.path(8).colourings(q), ofPath);
        }
    }

    /** 17: such that no edge is between two nodes of one colour. */
    private static void colouringsWithNoneAndOne() {
        due.answer("17: no colour, no edges", Networks.none().colourings(0), 0);
        due.answer("17: one colour, no edges", Networks.none().colourings(1), 1);
        for (int v = 0; v < 4; v++) {
            for (int w = v + 1; w < 5; w++) {
                NetworkStates n = Networks.between(v, w, 0, 1);
                due.answer("17: no colour, " + v + "-" + w, n.colourings(0), 0);
                due.answer("17: one colour, " + v + "-" + w, n.colourings(1), 0);
                due.answer("17: two colours, " + v + "-" + w, n.colourings(2), 16);
                due.answer("17: four colours, " + v + "-" + w, n.colourings(4), 768);
            }
        }
        NetworkStates all = Networks.complete();
        due.answer("17: four colours for five nodes", all.colourings(4), 0);
        all.unlink(0);
        due.answer("17: and where two may be alike", all.colourings(4), 24);
    }

    /** 18: x or y is not -3 to 3: -1000000000. */
    private static void polynomialOfBases() {
        int[] bad = {LOW, LOW + 3, -32, -4, 4, 5, 32, HIGH};
        for (int base : bad) {
            for (int good = -3; good <= 3; good++) {
                NetworkStates n = Networks.path(8);
                String call = "18: polynomial(" + base + ", " + good + ") or back";
                due.answer(call, n.polynomial(base, good), Networks.NO_POLYNOMIAL);
                due.answer(call, n.polynomial(good, base), Networks.NO_POLYNOMIAL);
            }
            due.answer("18: polynomial(" + base + ", " + base + ") of none",
                    Networks.none().polynomial(base, base), Networks.NO_POLYNOMIAL);
        }
        for (int x = -3; x <= 3; x++) {
            for (int y = -3; y <= 3; y++) {
                String call = "18: polynomial(" + x + ", " + y + ")";
                due.answer(call + " of none", Networks.none().polynomial(x, y), 1);
                due.answer(call + " of a path", Networks.path(8).polynomial(x, y), Networks.power(x + 1, 4));
                due.answer(call + " of two edges", Networks.between(0, 1, 8, 2).polynomial(x, y), x + 2 + y);
            }
        }
    }

    /** 18: a power with exponent 0 is 1. */
    private static void polynomialWithExponentZero() {
        due.answer("18: no edges", Networks.none().polynomial(0, 0), 1);
        due.answer("18: one edge, both 0", Networks.between(0, 1, 8, 1).polynomial(0, 0), 1);
        due.answer("18: one edge, x 1", Networks.between(0, 1, 8, 1).polynomial(1, 0), 2);
        due.answer("18: two edges, both 0", Networks.between(0, 1, 8, 2).polynomial(0, 0), 2);
        due.answer("18: two edges, y 3", Networks.between(0, 1, 8, 2).polynomial(0, 3), 5);
        due.answer("18: two edges, x 3", Networks.between(0, 1, 8, 2).polynomial(3, 0), 5);
        NetworkStates all = Networks.complete();
        due.answer("18: connecting sets are left by x 0", all.polynomial(0, 1), 728);
        due.answer("18: sets without a closed way are left by y 0", all.polynomial(1, 0), 291);
        due.answer("18: trees are left by both", all.polynomial(0, 0), 125);
    }

    /** 18: c the number of parts with just these up, and e that with all edges up. */
    private static void polynomialOfNodesApart() {
        NetworkStates n = Networks.triangle();
        for (int x = -3; x <= 3; x++) {
            for (int y = -3; y <= 3; y++) {
                int ofTriangle = x * x + 3 * x + 3 + y;
                due.answer("18: triangle, " + x + ", " + y, n.polynomial(x, y), ofTriangle);
            }
        }
        n.link(3, 4, 8);
        due.answer("18: an edge more apart", n.polynomial(2, -1), (4 + 6 + 3 - 1) * 3);
    }

    /** The greatest and least bases and most edges, where the powers are greatest. */
    private static void polynomialOfGreatAnswers() {
        NetworkStates full = Networks.twelveBetween(0, 1, 8);
        due.answer("18: twelve edges, 3 and 3", full.polynomial(3, 3), 4 + (Networks.power(4, 12) - 4) / 3);
        due.answer("18: twelve edges, -3 and -3", full.polynomial(-3, -3), -2 + alternating(11));
        NetworkStates tripled = Networks.none();
        for (int i = 0; i < 12; i++) {
            tripled.link(i % 4, i % 4 + 1, 8);
        }
        // A path of four such bundles: the product of four times x + 3 + 3y + y^2.
        due.answer("18: four bundles of three, 3 and 3", tripled.polynomial(3, 3), Networks.power(24, 4));
        due.answer("18: four bundles of three, 3 and -3", tripled.polynomial(3, -3), Networks.power(6, 4));
        due.answer("18: four bundles of three, -3 and 3", tripled.polynomial(-3, 3), Networks.power(18, 4));
    }

    /** The sum of the powers of -2 from the first to the last. */
    private static long alternating(int last) {
        long sum = 0;
        for (int exponent = 1; exponent <= last; exponent++) {
            sum += Networks.power(-2, exponent);
        }
        return sum;
    }
}
