/**
 * The sentences of "What it is" and "Terms": a method for each, with the sentence above it. What
 * the document says of refusals is in RefusalsTest. How a set of edges is written has no method:
 * no call takes or answers one, but for the number of a state.
 */
public final class TermsTest {
    private static final long ALL = Networks.ALL;

    private static final Due due = new Due();

    public static void main(String[] args) {
        call512IsAnswered();
        fiveNodes();
        atMostTwelveEdges();
        edgesAreNumberedFromZero();
        twoDifferentNodes();
        severalBetweenTheSameTwo();
        twelveBetweenTheSameTwo();
        sharesFromZeroToSixteen();
        weightOfAnEdge();
        stateOfWeightZeroIsAState();
        heldUpHeldDownAndFree();
        shareOfAHeldEdge();
        heldEdgesAreAsTheyAreHeld();
        numberOfAState();
        sixteenForEveryEdgeFewer();
        sixteenForEveryEdgeThatWentAway();
        sixteenForEveryHeldEdge();
        allStatesTogether();
        wayThroughOtherNodes();
        eachToEachOther();
        fewerThanTwoNodes();
        twoNodesAreNotFewer();
        partsAreTheGreatestSets();
        singleNodesAreParts();
        masks();
        numbersThatAreNoMask();
        holdsDoNotMatterFromCutsOn();
        sharesDoNotMatterFromCutsOn();
        due.end();
    }

    /** An object is used for at most 512 calls after it has been made. */
    private static void call512IsAnswered() {
        NetworkStates n = Networks.twelveBetween(0, 1, 15);
        for (int call = 13; call <= 511; call++) {
            due.answer("call " + call, n.share(0, 15), 15);
        }
        due.answer("call 512", n.weight(3), ALL - 1);

        NetworkStates changed = Networks.none();
        for (int call = 1; call <= 511; call += 2) {
            due.answer("call " + call, changed.link(0, 1, 16), 0);
            due.answer("call " + (call + 1), changed.unlink(0), 0);
        }
    }

    /** There are five NODES, 0 to 4. */
    private static void fiveNodes() {
        for (int a = 0; a <= 4; a++) {
            for (int b = 0; b <= 4; b++) {
                if (a != b) {
                    NetworkStates n = Networks.none();
                    due.answer("link(" + a + ", " + b + ", 16)", n.link(a, b, 16), 0);
                    due.answer("and they are its nodes", n.weight(1 << a | 1 << b), ALL);
                    due.answer("and no others", n.parts(4), ALL);
                }
            }
            for (int v : Networks.NO_NODES) {
                NetworkStates n = Networks.none();
                due.answer("link(" + a + ", " + v + ", 16)", n.link(a, v, 16), -1);
                due.answer("link(" + v + ", " + a + ", 16)", n.link(v, a, 16), -1);
            }
        }
        due.answer("five parts with no edge", Networks.none().parts(5), ALL);
    }

    /** At most 12 EDGES. */
    private static void atMostTwelveEdges() {
        NetworkStates n = Networks.none();
        for (int i = 0; i < 12; i++) {
            due.answer("edge " + i, n.link(i % 5, (i + 2) % 5, i), i);
        }
        due.answer("a thirteenth", n.link(0, 1, 8), -3);
        due.answer("a fourteenth", n.link(3, 4, 16), -3);
        due.answer("there are twelve", n.clear(), 12);
    }

    /** Edges are numbered from 0. */
    private static void edgesAreNumberedFromZero() {
        for (int edges = 1; edges <= 12; edges++) {
            NetworkStates n = Networks.between(2, 3, 9, edges);
            due.answer("no edge -1 of " + edges, n.share(-1, 9), -1);
            due.answer("edge 0 of " + edges, n.share(0, 9), 9);
            due.answer("the last of " + edges, n.share(edges - 1, 9), 9);
            due.answer("no edge " + edges + " of " + edges, n.share(edges, 9), -1);
        }
    }

    /** Each edge is between two different nodes. */
    private static void twoDifferentNodes() {
        for (int v = 0; v <= 4; v++) {
            NetworkStates n = Networks.none();
            due.answer("link(" + v + ", " + v + ", 8)", n.link(v, v, 8), -1);
            due.answer("there is no edge", n.clear(), 0);
        }
    }

    /** Several edges may be between the same two nodes. */
    private static void severalBetweenTheSameTwo() {
        NetworkStates n = Networks.none();
        due.answer("one", n.link(0, 1, 4), 0);
        due.answer("another, from the other end", n.link(1, 0, 8), 1);
        long rest = ALL / 256;
        due.answer("two: weight(3)", n.weight(3), rest * 160);
        due.answer("two: states(3, 0)", n.states(3, 0), 0);
        due.answer("two: states(3, 1)", n.states(3, 1), 2);
        due.answer("two: states(3, 2)", n.states(3, 2), 1);
        due.answer("two: parts(4)", n.parts(4), rest * 160);
        due.answer("two: parts(5)", n.parts(5), rest * 96);
        due.answer("two: pairs()", n.pairs(), rest * 160);
        due.answer("two: pivotal(3, 0)", n.pivotal(3, 0), rest * 8);
        due.answer("two: pivotal(3, 1)", n.pivotal(3, 1), rest * 12);
        due.answer("two: worst(3)", n.worst(3), rest * 96);
        due.answer("two: worstState(3)", n.worstState(3), 0);
        due.answer("two: cuts(3, 1)", n.cuts(3, 1), 0);
        due.answer("two: cuts(3, 2)", n.cuts(3, 2), 1);
        due.answer("two: forests(1)", n.forests(1), 2);
        due.answer("two: forests(2)", n.forests(2), 0);
        due.answer("two: colourings(2)", n.colourings(2), 16);
        due.answer("two: polynomial(3, -2)", n.polynomial(3, -2), 3 + 2 - 2);
        n.link(1, 2, 8);
        n.link(2, 3, 8);
        n.link(3, 4, 8);
        due.answer("two: trees()", n.trees(), 2);
    }

    private static void twelveBetweenTheSameTwo() {
        NetworkStates n = Networks.twelveBetween(3, 4, 8);
        long one = ALL / 4096;
        due.answer("twelve: weight(24)", n.weight(24), ALL - one);
        due.answer("twelve: parts(4)", n.parts(4), ALL - one);
        due.answer("twelve: parts(5)", n.parts(5), one);
        due.answer("twelve: pairs()", n.pairs(), ALL - one);
        due.answer("twelve: worst(24)", n.worst(24), one);
        due.answer("twelve: worstState(24)", n.worstState(24), 0);
        due.answer("twelve: forests(1)", n.forests(1), 12);
        due.answer("twelve: trees()", n.trees(), 0);
        due.answer("twelve: colourings(4)", n.colourings(4), 4 * 3 * 64);
        for (int k = 0; k <= 12; k++) {
            due.answer("twelve: states(24, " + k + ")", n.states(24, k), k == 0 ? 0 : Networks.choose(12, k));
            due.answer("twelve: cuts(24, " + k + ")", n.cuts(24, k), k == 12 ? 1 : 0);
        }
        for (int i = 0; i < 12; i++) {
            due.answer("twelve: pivotal(24, " + i + ")", n.pivotal(24, i), ALL / 16 / 2048);
        }
    }

    /** An edge has a SHARE u from 0 to 16. */
    private static void sharesFromZeroToSixteen() {
        for (int u = 0; u <= 16; u++) {
            NetworkStates n = Networks.none();
            due.answer("link(0, 1, " + u + ")", n.link(0, 1, u), 0);
            due.answer("share(0, " + (16 - u) + ")", n.share(0, 16 - u), u);
            due.answer("share(0, 3) afterwards", n.share(0, 3), 16 - u);
        }
        for (int u : Networks.NO_SHARES) {
            NetworkStates n = Networks.none();
            due.answer("link(0, 1, " + u + ")", n.link(0, 1, u), -2);
            n.link(0, 1, 16);
            due.answer("share(0, " + u + ")", n.share(0, u), -2);
        }
    }

    /** Its weight is u if it is up and 16 - u if it is down. */
    private static void weightOfAnEdge() {
        long rest = ALL / 16;
        for (int u = 0; u <= 16; u++) {
            NetworkStates n = Networks.between(0, 1, u, 1);
            due.answer("up, share " + u, n.parts(4), rest * u);
            due.answer("down, share " + u, n.parts(5), rest * (16 - u));
            due.answer("weight(3), share " + u, n.weight(3), rest * u);
            due.answer("pairs(), share " + u, n.pairs(), rest * u);
            due.answer("worst(3), share " + u, n.worst(3), rest * (16 - u));
            due.answer("worst(5), share " + u, n.worst(5), rest * Math.max(u, 16 - u));
            due.answer("worstState(5), share " + u, n.worstState(5), u > 8 ? 1 : 0);
        }
    }

    private static void stateOfWeightZeroIsAState() {
        for (int u = 0; u <= 16; u += 16) {
            NetworkStates n = Networks.between(0, 1, u, 3);
            for (int k = 0; k <= 3; k++) {
                due.answer("share " + u + ": states(0, " + k + ")", n.states(0, k), Networks.choose(3, k));
            }
            due.answer("share " + u + ": states(3, 0)", n.states(3, 0), 0);
            due.answer("share " + u + ": states(3, 3)", n.states(3, 3), 1);
        }
    }

    /** An edge may be HELD up or held down, else it is free. */
    private static void heldUpHeldDownAndFree() {
        NetworkStates n = Networks.between(1, 3, 4, 1);
        atFree("a new edge", n);
        n.hold(0, 1);
        due.answer("up: weight(10)", n.weight(10), ALL);
        due.answer("up: parts(4)", n.parts(4), ALL);
        due.answer("up: parts(5)", n.parts(5), 0);
        due.answer("up: pairs()", n.pairs(), ALL);
        due.answer("up: states(0, 0)", n.states(0, 0), 0);
        due.answer("up: states(0, 1)", n.states(0, 1), 1);
        due.answer("up: worst(10)", n.worst(10), 0);
        due.answer("up: worstState(10)", n.worstState(10), -2);
        due.answer("up: pivotal(10, 0)", n.pivotal(10, 0), ALL / 16);
        n.hold(0, 0);
        due.answer("down: weight(10)", n.weight(10), 0);
        due.answer("down: parts(4)", n.parts(4), 0);
        due.answer("down: parts(5)", n.parts(5), ALL);
        due.answer("down: pairs()", n.pairs(), 0);
        due.answer("down: states(0, 0)", n.states(0, 0), 1);
        due.answer("down: states(0, 1)", n.states(0, 1), 0);
        due.answer("down: worst(10)", n.worst(10), ALL);
        due.answer("down: worstState(10)", n.worstState(10), 0);
        due.answer("down: pivotal(10, 0)", n.pivotal(10, 0), ALL / 16);
        n.hold(0, 2);
        atFree("an edge made free", n);
    }

    private static void atFree(String which, NetworkStates n) {
        due.answer(which + ": weight(10)", n.weight(10), ALL / 16 * 4);
        due.answer(which + ": parts(4)", n.parts(4), ALL / 16 * 4);
        due.answer(which + ": parts(5)", n.parts(5), ALL / 16 * 12);
        due.answer(which + ": pairs()", n.pairs(), ALL / 16 * 4);
        due.answer(which + ": states(0, 0)", n.states(0, 0), 1);
        due.answer(which + ": states(0, 1)", n.states(0, 1), 1);
        due.answer(which + ": worst(10)", n.worst(10), ALL / 16 * 12);
        due.answer(which + ": worstState(10)", n.worstState(10), 0);
        due.answer(which + ": pivotal(10, 0)", n.pivotal(10, 0), ALL / 16);
    }

    private static void shareOfAHeldEdge() {
        for (int u = 0; u <= 16; u++) {
            NetworkStates n = Networks.between(0, 1, u, 1);
            n.hold(0, 1);
            due.answer("held up, share " + u, n.weight(3), ALL);
            due.answer("held up, share " + u + ", nodes apart", n.worst(5), ALL);
            n.hold(0, 0);
            due.answer("held down, share " + u, n.weight(3), 0);
            due.answer("held down, share " + u + ", its nodes", n.worst(3), ALL);
            due.answer("the share is kept", n.share(0, 8), u);
        }
    }

    /** A STATE says of every edge whether it is up or down; held edges are as they are held. */
    private static void heldEdgesAreAsTheyAreHeld() {
        for (int up = 0; up <= 12; up++) {
            for (int down = 0; down <= 12 - up; down++) {
                NetworkStates n = Networks.twelveBetween(0, 4, 8);
                for (int i = 0; i < up; i++) {
                    n.hold(i, 1);
                }
                for (int i = 12 - down; i < 12; i++) {
                    n.hold(i, 0);
                }
                for (int k = -1; k <= 13; k++) {
                    due.answer(up + " up, " + down + " down: states(0, " + k + ")",
                            n.states(0, k), Networks.choose(12 - up - down, k - up));
                }
            }
        }
    }

    /** Its NUMBER has the binary digit i for edge i, 1 if it is up. */
    private static void numberOfAState() {
        for (int i = 0; i < 12; i++) {
            NetworkStates n = Networks.twelveBetween(0, 1, 4);
            due.answer("all are down", n.worstState(24), 0);
            n.share(i, 12);
            due.answer("only edge " + i + " is up", n.worstState(24), 1 << i);
            n.hold(i, 0);
            due.answer("it is held down", n.worstState(24), 0);
            n.hold(i, 1);
            due.answer("it is held up", n.worstState(24), 1 << i);
            for (int other = 0; other < 12; other++) {
                n.share(other, 9);
            }
            due.answer("all are up", n.worstState(24), 4095);
            n.hold(i, 0);
            due.answer("all but edge " + i, n.worstState(24), 4095 - (1 << i));
        }
    }

    /** Its WEIGHT: times 16 for every edge fewer than 12 that there is. */
    private static void sixteenForEveryEdgeFewer() {
        for (int edges = 0; edges <= 12; edges++) {
            NetworkStates n = Networks.between(0, 1, 15, edges);
            due.answer(edges + " edges, all down", n.worst(3), Networks.power(16, 12 - edges));
            due.answer(edges + " edges, all down, by parts", n.parts(5), Networks.power(16, 12 - edges));
            due.answer(edges + " edges, all up", n.worst(24),
                    Networks.power(15, edges) * Networks.power(16, 12 - edges));
        }
    }

    private static void sixteenForEveryEdgeThatWentAway() {
        NetworkStates n = Networks.twelveBetween(0, 1, 15);
        for (int edges = 11; edges >= 0; edges--) {
            n.unlink(edges);
            due.answer(edges + " edges are left, all down", n.worst(3), Networks.power(16, 12 - edges));
            due.answer(edges + " edges are left, all states", n.weight(0), ALL);
        }
        NetworkStates cleared = Networks.twelveBetween(0, 1, 15);
        cleared.clear();
        due.answer("all went at once", cleared.worst(3), ALL);
        cleared.link(0, 1, 15);
        due.answer("one came again", cleared.worst(3), ALL / 16);
    }

    /** Its WEIGHT: times 16 for every edge that is held. */
    private static void sixteenForEveryHeldEdge() {
        NetworkStates down = Networks.twelveBetween(0, 1, 15);
        NetworkStates up = Networks.twelveBetween(0, 1, 1);
        due.answer("none held, all down", down.worst(3), 1);
        due.answer("none held, nodes apart", up.worst(24), Networks.power(15, 12));
        for (int held = 1; held <= 12; held++) {
            down.hold(held - 1, 0);
            up.hold(held - 1, 1);
            due.answer(held + " held down", down.worst(3), Networks.power(16, held));
            due.answer(held + " held up", up.worst(24),
                    Networks.power(16, held) * Networks.power(15, 12 - held));
            due.answer(held + " held up, all states", up.weight(0), ALL);
        }
    }

    private static void allStatesTogether() {
        for (int edges = 0; edges <= 12; edges++) {
            for (int u = 0; u <= 16; u += 4) {
                NetworkStates n = Networks.between(2, 4, u, edges);
                due.answer(edges + " edges of share " + u, n.weight(0), ALL);
            }
        }
        due.answer("mixed", Networks.twelveMixed().weight(0), ALL);
    }

    /** One can come from each of them to each other one along edges that are up. */
    private static void wayThroughOtherNodes() {
        NetworkStates n = Networks.none();
        n.link(3, 4, 16);
        n.link(1, 3, 16);
        n.link(2, 4, 16);
        n.link(0, 2, 16);
        due.answer("the ends of 0-2-4-3-1", n.weight(3), ALL);
        due.answer("the middle and an end", n.weight(18), ALL);
        due.answer("all", n.weight(31), ALL);
        for (int i = 0; i < 4; i++) {
            n.hold(i, 0);
            due.answer("no way without edge " + i, n.weight(3), 0);
            n.hold(i, 2);
        }
    }

    private static void eachToEachOther() {
        NetworkStates n = Networks.none();
        n.link(0, 1, 16);
        n.link(3, 4, 16);
        due.answer("0, 1", n.weight(3), ALL);
        due.answer("3, 4", n.weight(24), ALL);
        due.answer("0, 1 and 3", n.weight(11), 0);
        due.answer("0, 3 and 4", n.weight(25), 0);
        due.answer("two pairs, connected each in itself", n.weight(27), 0);
        due.answer("0, 1 and 2, which has no edge", n.weight(7), 0);
        due.answer("2 and 3, 4", n.weight(28), 0);
    }

    /** So it connects every set of fewer than two nodes. */
    private static void fewerThanTwoNodes() {
        for (int mask : Networks.FEWER_THAN_TWO) {
            connectedByEveryState(mask, Networks.none(), 0);
            connectedByEveryState(mask, Networks.between(0, 1, 0, 1), 1);
            connectedByEveryState(mask, Networks.triangle(), 3);
            connectedByEveryState(mask, Networks.twelveBetween(2, 4, 16), 12);
        }
    }

    private static void connectedByEveryState(int mask, NetworkStates n, int edges) {
        String of = "(" + mask + ") of " + edges + " edges";
        due.answer("weight" + of, n.weight(mask), ALL);
        due.answer("worst" + of, n.worst(mask), 0);
        due.answer("worstState" + of, n.worstState(mask), -2);
        for (int k = -1; k <= 13; k++) {
            due.answer("states, k " + k + of, n.states(mask, k), Networks.choose(edges, k));
            due.answer("cuts, k " + k + of, n.cuts(mask, k), 0);
        }
        for (int i = 0; i < edges; i++) {
            due.answer("pivotal, edge " + i + of, n.pivotal(mask, i), 0);
        }
    }

    private static void twoNodesAreNotFewer() {
        for (int v = 0; v < 4; v++) {
            for (int w = v + 1; w < 5; w++) {
                int mask = 1 << v | 1 << w;
                NetworkStates n = Networks.none();
                due.answer("weight(" + mask + ")", n.weight(mask), 0);
                due.answer("states(" + mask + ", 0)", n.states(mask, 0), 0);
                due.answer("worst(" + mask + ")", n.worst(mask), ALL);
                due.answer("worstState(" + mask + ")", n.worstState(mask), 0);
                due.answer("cuts(" + mask + ", 0)", n.cuts(mask, 0), 1);
            }
        }
    }

    /** PARTS of a state are the greatest sets of nodes that it connects. */
    private static void partsAreTheGreatestSets() {
        int[][] edges = {{0, 2}, {2, 4}, {1, 3}, {0, 4}, {3, 1}, {4, 3}, {0, 1}, {1, 2}};
        int[] parts = {4, 3, 2, 2, 2, 1, 1, 1};
        NetworkStates n = Networks.none();
        for (int i = 0; i < edges.length; i++) {
            n.link(edges[i][0], edges[i][1], 16);
            for (int k = 0; k <= 6; k++) {
                due.answer("parts(" + k + ") with edges 0 to " + i, n.parts(k), k == parts[i] ? ALL : 0);
            }
        }
        NetworkStates star = Networks.none();
        for (int v = 1; v <= 4; v++) {
            star.link(3, v == 3 ? 0 : v, 16);
            due.answer("a star is one part, the others are single", star.parts(5 - v), ALL);
        }
    }

    /** Single nodes with no edge up are parts, too. */
    private static void singleNodesAreParts() {
        NetworkStates n = Networks.path(16);
        due.answer("no single node", n.parts(1), ALL);
        due.answer("polynomial of a path", n.polynomial(2, 3), 81);
        for (int i = 0; i < 4; i++) {
            n.hold(i, 0);
            due.answer("a single node more", n.parts(i + 2), ALL);
            due.answer("and not as many as before", n.parts(i + 1), 0);
        }
        due.answer("no edges, five single nodes", Networks.none().parts(5), ALL);
        due.answer("a triangle and two single nodes", Networks.triangle().parts(3), ALL / 2);
        // Were single nodes no parts, the exponents of x and y would be others.
        due.answer("polynomial of no edges", Networks.none().polynomial(3, 3), 1);
        due.answer("polynomial of one edge", Networks.between(1, 2, 8, 1).polynomial(3, 2), 4);
    }

    /** A MASK is the number from 0 to 31 that has the binary digit v for node v. */
    private static void masks() {
        for (int v = 0; v < 4; v++) {
            for (int w = v + 1; w < 5; w++) {
                NetworkStates n = Networks.between(v, w, 16, 1);
                int ends = 1 << v | 1 << w;
                for (int mask = 0; mask <= 31; mask++) {
                    boolean connected = Integer.bitCount(mask) < 2 || mask == ends;
                    String of = "(" + mask + "), edge " + v + "-" + w;
                    due.answer("weight" + of, n.weight(mask), connected ? ALL : 0);
                    due.answer("states" + of, n.states(mask, 1), connected ? 1 : 0);
                    due.answer("pivotal" + of, n.pivotal(mask, 0), mask == ends ? ALL / 16 : 0);
                    due.answer("worst" + of, n.worst(mask), connected ? 0 : ALL);
                    due.answer("worstState" + of, n.worstState(mask), connected ? -2 : 1);
                    due.answer("cuts" + of, n.cuts(mask, 1), mask == ends ? 1 : 0);
                }
            }
        }
    }

    /** A number that is asked for as a mask and is not 0 to 31: -1. */
    private static void numbersThatAreNoMask() {
        for (int mask : Networks.NO_MASKS) {
            maskIsRefused(mask, Networks.none());
            maskIsRefused(mask, Networks.threeMixed());
            maskIsRefused(mask, Networks.twelveMixed());
        }
    }

    private static void maskIsRefused(int mask, NetworkStates n) {
        due.answer("weight(" + mask + ")", n.weight(mask), -1);
        due.answer("states(" + mask + ", 0)", n.states(mask, 0), -1);
        due.answer("pivotal(" + mask + ", 0)", n.pivotal(mask, 0), -1);
        due.answer("worst(" + mask + ")", n.worst(mask), -1);
        due.answer("worstState(" + mask + ")", n.worstState(mask), -1);
        due.answer("cuts(" + mask + ", 0)", n.cuts(mask, 0), -1);
    }

    /** In the calls from cuts on, it does not matter which edges are held. */
    private static void holdsDoNotMatterFromCutsOn() {
        for (int pattern = 0; pattern < 243; pattern++) {
            NetworkStates n = Networks.ring(8);
            int digits = pattern;
            for (int i = 0; i < 5; i++) {
                n.hold(i, digits % 3);
                digits /= 3;
            }
            answersOfARing("ring held as " + Integer.toString(pattern, 3), n);
        }
    }

    /** In the calls from cuts on, shares do not matter. */
    private static void sharesDoNotMatterFromCutsOn() {
        for (int pattern = 0; pattern < 243; pattern++) {
            NetworkStates n = Networks.ring(8);
            int digits = pattern;
            for (int i = 0; i < 5; i++) {
                n.share(i, digits % 3 * 8);
                digits /= 3;
            }
            answersOfARing("ring with shares " + Integer.toString(pattern, 3), n);
        }
    }

    private static void answersOfARing(String which, NetworkStates n) {
        for (int k = 0; k <= 5; k++) {
            due.answer(which + ": cuts(31, " + k + ")", n.cuts(31, k), k == 2 ? 10 : 0);
            due.answer(which + ": forests(" + k + ")", n.forests(k), k == 5 ? 0 : Networks.choose(5, k));
        }
        due.answer(which + ": cuts(5, 2)", n.cuts(5, 2), 6);
        due.answer(which + ": trees()", n.trees(), 5);
        due.answer(which + ": colourings(2)", n.colourings(2), 0);
        due.answer(which + ": colourings(3)", n.colourings(3), 30);
        due.answer(which + ": colourings(4)", n.colourings(4), 240);
        due.answer(which + ": polynomial(0, 0)", n.polynomial(0, 0), 5);
        due.answer(which + ": polynomial(1, 2)", n.polynomial(1, 2), 16 + 8 + 4 + 2 + 3);
        due.answer(which + ": polynomial(-3, -3)", n.polynomial(-3, -3), 16 - 8 + 4 - 2 - 2);
    }
}
