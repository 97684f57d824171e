/** The sentences of the document's description that name a boundary, a method each. */
public final class DescriptionSentencesTest {
    private static final Checks checks = new Checks();

    public static void main(String[] args) {
        callsOfAnObject();
        numbersOfNodes();
        capacitiesOfPairs();
        noEdge();
        whatACutIs();
        bitsOfASet();
        weightOfACut();
        separatedNodes();
        minimumCutValue();
        nearCut();
        nodeZeroHasNoParent();
        upToTheLastNode();
        nodesThatGetANewParent();
        parentOfTheParent();
        sides();
        sideIsAMinimumCut();
        storedUntil();
        freshAsLongAs();
        pathOfTwoNodes();
        upperBound();
        lowerBound();
        loss();
        betweenBothBounds();
        builtIfNoneIsStored();
        othersThatNeedAFreshTree();
        othersBuildNothing();
        oneFlowForEachNode();
        noneIsNoError();
        checks.end();
    }

    // ---- What it is

    private static void callsOfAnObject() {
        checks.sentence("An object is used for at most 512 calls after it has been made");
        CutTreeKeeper x = new CutTreeKeeper();
        checks.due("call 1: reset(12)", x.reset(12), 4);
        for (int k = 0; k < 255; k++) {
            checks.due("setCapacity", x.setCapacity(0, 11, k + 1), k);
            checks.due("minimumCut", x.minimumCut(11, 0), k + 1);
        }
        checks.due("call 512: count(3)", x.count(3), 255 * 11);
        x = Graphs.full(12, 999);
        for (int call = 68; call < 512; call++) {
            checks.due("call " + call + ": setCapacity", x.setCapacity(10, 11, call), call == 68 ? 999 : call - 1);
        }
        checks.due("call 512: undo()", x.undo(), 39);
        // What later calls answer is free, but rule 7 lets no call throw.
        for (int k = 0; k < 512; k++) {
            x.setCapacity(k % 12, (k + 1) % 12, k);
            x.witness(k % 12, (k + 5) % 12);
            x.undo();
        }
    }

    // ---- the graph

    private static void numbersOfNodes() {
        checks.sentence("There are 2 to 12 nodes, numbered from 0");
        for (int n = 2; n <= 12; n++) {
            CutTreeKeeper x = Graphs.empty(n);
            checks.due("count(0)", x.count(0), n);
            checks.due("setCapacity(0, " + (n - 1) + ", 7)", x.setCapacity(0, n - 1, 7), 0);
            checks.due("capacity(" + (n - 1) + ", 0)", x.capacity(n - 1, 0), 7);
            checks.due("capacity(" + n + ", 0)", x.capacity(n, 0), -1);
            checks.due("capacity(0, " + n + ")", x.capacity(0, n), -1);
            checks.due("capacity(-1, 0)", x.capacity(-1, 0), -1);
            checks.due("capacity(0, -1)", x.capacity(0, -1), -1);
            checks.due("partner(0)", x.partner(0), n - 1);
            checks.due("partner(" + (n - 1) + ")", x.partner(n - 1), 0);
            checks.due("partner(" + n + ")", x.partner(n), -1);
            checks.due("partner(-1)", x.partner(-1), -1);
        }
    }

    private static void capacitiesOfPairs() {
        checks.sentence("Each pair of different nodes has a capacity from 0 to 999, the same in both directions");
        CutTreeKeeper x = Graphs.empty(12);
        int next = 0;
        for (int u = 0; u < 12; u++) {
            for (int v = u + 1; v < 12; v++) {
                next++;
                x.setCapacity(next % 2 == 0 ? u : v, next % 2 == 0 ? v : u, 999 - next);
            }
        }
        next = 0;
        for (int u = 0; u < 12; u++) {
            for (int v = u + 1; v < 12; v++) {
                next++;
                checks.due("capacity(" + u + ", " + v + ")", x.capacity(u, v), 999 - next);
                checks.due("capacity(" + v + ", " + u + ")", x.capacity(v, u), 999 - next);
            }
        }
        checks.due("setCapacity(3, 9, 999)", x.setCapacity(3, 9, 999), 999 - 36);
        checks.due("capacity(9, 3)", x.capacity(9, 3), 999);
        checks.due("setCapacity(9, 3, 0)", x.setCapacity(9, 3, 0), 999);
        checks.due("setCapacity(3, 9, 0)", x.setCapacity(3, 9, 0), 0);
        checks.due("setCapacity(3, 9, -1)", x.setCapacity(3, 9, -1), -3);
        checks.due("setCapacity(3, 9, 1000)", x.setCapacity(3, 9, 1000), -3);
    }

    private static void noEdge() {
        checks.sentence("a capacity of 0 means that there is no edge");
        CutTreeKeeper x = Graphs.empty(3);
        x.setCapacity(0, 1, 0);
        checks.due("count(1) with 0", x.count(1), 0);
        x.setCapacity(0, 1, 1);
        checks.due("count(1) with 1", x.count(1), 1);
        checks.due("minimumCut(0, 1)", x.minimumCut(0, 1), 1);
        x.setCapacity(1, 0, 0);
        checks.due("count(1) with 0 again", x.count(1), 0);
        checks.due("minimumCut(0, 1)", x.minimumCut(0, 1), 0);
        x.setCapacity(1, 2, 999);
        checks.due("count(1) with 999", x.count(1), 1);
    }

    // ---- cuts

    private static void whatACutIs() {
        checks.sentence("A cut is a set of nodes that contains at least one node, but not all of them");
        for (int n = 2; n <= 6; n++) {
            CutTreeKeeper x = Graphs.full(n, 1);
            for (int set = -4; set <= Graphs.all(n) + 4; set++) {
                int inside = Integer.bitCount(set);
                boolean isCut = set > 0 && set < Graphs.all(n);
                checks.due(n + " nodes: cutWeight(" + set + ")", x.cutWeight(set), isCut ? inside * (n - inside) : -3);
                checks.due(n + " nodes: leastAcross(" + set + ")", x.leastAcross(set), isCut ? n - 1 : -3);
            }
        }
        for (int n = 7; n <= 12; n++) {
            CutTreeKeeper x = Graphs.full(n, 1);
            int[] sets = {0, 1, 1 << n - 1, Graphs.all(n) - 1, Graphs.all(n), Graphs.all(n) + 1, 2 << n};
            int[] weights = {-3, n - 1, n - 1, n - 1, -3, -3, -3};
            for (int k = 0; k < sets.length; k++) {
                checks.due(n + " nodes: cutWeight(" + sets[k] + ")", x.cutWeight(sets[k]), weights[k]);
                checks.due(n + " nodes: leastAcross(" + sets[k] + ")", x.leastAcross(sets[k]), weights[k]);
            }
        }
    }

    private static void bitsOfASet() {
        checks.sentence("Sets are bit sets: bit k stands for node k");
        CutTreeKeeper x = Graphs.empty(12);
        for (int k = 1; k < 12; k++) {
            x.setCapacity(0, k, 100 + k);
        }
        for (int k = 1; k < 12; k++) {
            checks.due("cutWeight(1 << " + k + ")", x.cutWeight(1 << k), 100 + k);
            checks.due("witness(" + k + ", 0)", x.witness(k, 0), 1 << k);
            checks.due("witness(0, " + k + ")", x.witness(0, k), 4095 - (1 << k));
            checks.due("side(" + k + ")", x.side(k), 1 << k);
            checks.due("classOf(" + k + ", 20000)", x.classOf(k, 20000), 1 << k);
        }
        checks.due("cutWeight(1)", x.cutWeight(1), 11 * 100 + 66);
        for (int k = 12; k < 32; k++) {
            checks.due("cutWeight(1 | 1 << " + k + ")", x.cutWeight(1 | 1 << k), -3);
            checks.due("leastAcross(1 | 1 << " + k + ")", x.leastAcross(1 | 1 << k), -3);
        }
    }

    private static void weightOfACut() {
        checks.sentence("The weight of a cut is the sum of the capacities of all pairs of which one node is in the set"
            + " and the other one is not");
        CutTreeKeeper x = Graphs.full(12, 999);
        checks.due("cutWeight(1365), the greatest", x.cutWeight(1365), 35964);
        checks.due("cutWeight(2730), its other side", x.cutWeight(2730), 35964);
        checks.due("cutWeight(2048)", x.cutWeight(2048), 10989);
        checks.due("cutWeight(4094)", x.cutWeight(4094), 10989);
        x = Graphs.of(4, new int[] {0, 1, 1}, new int[] {0, 2, 2}, new int[] {0, 3, 4}, new int[] {1, 2, 8},
            new int[] {1, 3, 16}, new int[] {2, 3, 32});
        int[] weights = {-3, 7, 25, 30, 42, 45, 51, 52, 52, 51, 45, 42, 30, 25, 7, -3};
        for (int set = 0; set < 16; set++) {
            checks.due("cutWeight(" + set + ")", x.cutWeight(set), weights[set]);
        }
        x = Graphs.empty(2);
        checks.due("cutWeight(1) without edges", x.cutWeight(1), 0);
    }

    private static void separatedNodes() {
        checks.sentence("A cut separates two nodes if exactly one of them is in the set");
        CutTreeKeeper x = Graphs.chain(2, 1, 2);
        for (int s = 0; s < 4; s++) {
            for (int t = 0; t < 4; t++) {
                if (s == t) continue;
                int set = x.witness(s, t);
                checks.due("bit s of witness(" + s + ", " + t + ")", set >> s & 1, 1);
                checks.due("bit t of witness(" + s + ", " + t + ")", set >> t & 1, 0);
                checks.due("its weight", x.cutWeight(set), x.minimumCut(s, t));
            }
        }
        // The lightest cut, {0, 1}, has both 0 and 1 in it, and neither 2 nor 3.
        checks.due("minimumCut(0, 1)", x.minimumCut(0, 1), 2);
        checks.due("minimumCut(2, 3)", x.minimumCut(2, 3), 2);
        checks.due("minimumCut(0, 3)", x.minimumCut(0, 3), 1);
    }

    private static void minimumCutValue() {
        checks.sentence("The minimum cut value of two nodes is the least weight of a cut that separates them");
        checks.due("without edges", Graphs.empty(12).minimumCut(0, 11), 0);
        checks.due("in the fullest graph", Graphs.full(12, 999).minimumCut(11, 0), 10989);
        checks.due("of two nodes without an edge", Graphs.empty(2).minimumCut(0, 1), 0);
        checks.due("of two nodes with the greatest edge", Graphs.chain(999).minimumCut(1, 0), 999);
        checks.due("in a chain of twelve", Graphs.chain(9, 8, 7, 6, 5, 1, 5, 6, 7, 8, 9).minimumCut(0, 11), 1);
        checks.due("apart", Graphs.of(4, new int[] {0, 1, 999}, new int[] {2, 3, 999}).minimumCut(1, 2), 0);
    }

    private static void nearCut() {
        checks.sentence("The near cut of s from t is the smallest set that contains s, but not t, and whose weight is"
            + " the minimum cut value of s and t");
        // In a ring each cut of two edges is lightest: the near cut is a node alone.
        for (int n = 3; n <= 12; n++) {
            CutTreeKeeper x = Graphs.empty(n);
            for (int k = 0; k < n; k++) {
                x.setCapacity(k, (k + 1) % n, 3);
            }
            x.build();
            for (int node = 1; node < n; node++) {
                checks.due("ring of " + n + ": parent(" + node + ")", x.parent(node), 0);
                checks.due("ring of " + n + ": label(" + node + ")", x.label(node), 6);
                checks.due("ring of " + n + ": side(" + node + ")", x.side(node), 1 << node);
            }
        }
        // Without a way to node 0, it is what s has a way to, and no node more.
        CutTreeKeeper x = Graphs.of(6, new int[] {1, 3, 5}, new int[] {3, 4, 7});
        x.build();
        checks.due("apart: side(1)", x.side(1), 2 + 8 + 16);
        checks.due("apart: side(2)", x.side(2), 4);
        checks.due("apart: side(3)", x.side(3), 8 + 16);
        checks.due("apart: side(4)", x.side(4), 16);
        checks.due("apart: side(5)", x.side(5), 32);
        checks.due("apart: label(1)", x.label(1), 0);
        checks.due("apart: label(3)", x.label(3), 5);
        checks.due("apart: label(4)", x.label(4), 7);
        // A flow goes 1 - 2 - 4 - 0 first; node 2 is in the near cut {1, 2, 3, 4} since this can be taken back.
        checkTree(Graphs.of(6, new int[] {1, 2, 1}, new int[] {1, 3, 2}, new int[] {2, 5, 1}, new int[] {0, 4, 1},
            new int[] {0, 5, 1}, new int[] {3, 4, 3}, new int[] {4, 2, 1}),
            new int[] {3, 4, 4, 0, 0}, new int[] {3, 3, 4, 2, 2});
    }

    // ---- building the tree

    private static void nodeZeroHasNoParent() {
        checks.sentence("Node 0 has no parent; at first node 0 is the parent of each other node");
        for (int n = 2; n <= 12; n++) {
            CutTreeKeeper x = Graphs.empty(n);
            x.build();
            checks.due("parent(0) of " + n, x.parent(0), -5);
            checks.due("label(0) of " + n, x.label(0), -5);
            for (int node = 1; node < n; node++) {
                checks.due("parent(" + node + ") of " + n, x.parent(node), 0);
                checks.due("label(" + node + ") of " + n, x.label(node), 0);
            }
        }
        // "At first" is at each building: nothing is left of the chain that was the tree before.
        CutTreeKeeper x = Graphs.chain(9, 9, 9, 9, 9);
        x.build();
        for (int k = 0; k < 5; k++) {
            x.setCapacity(k, k + 1, 0);
        }
        x.build();
        for (int node = 1; node < 6; node++) {
            checks.due("parent(" + node + "), built anew", x.parent(node), 0);
            checks.due("side(" + node + "), built anew", x.side(node), 1 << node);
        }
    }

    private static void upToTheLastNode() {
        checks.sentence("for s = 1, 2, and so on up to the last node");
        for (int n = 2; n <= 12; n++) {
            CutTreeKeeper x = Graphs.of(n, new int[] {n - 1, 0, 500 + n});
            x.build();
            checks.due("label of the last of " + n, x.label(n - 1), 500 + n);
            checks.due("side of the last of " + n, x.side(n - 1), 1 << n - 1);
            checks.due("label(1) of " + n, x.label(1), n == 2 ? 502 : 0);
        }
    }

    private static void nodesThatGetANewParent() {
        checks.sentence("each node other than s that is in X and whose parent is t gets the parent s");
        // Nodes behind s: the near cut of 1 from 0 is {1, 2, 3}.
        checkTree(Graphs.of(4, new int[] {0, 1, 1}, new int[] {1, 2, 5}, new int[] {1, 3, 6}),
            new int[] {0, 1, 1}, new int[] {1, 5, 6});
        // A node before s, but not its child: 0 - 3 - 1 - 2, where {1, 2} and {1, 2, 3} weigh the same.
        checkTree(Graphs.of(4, new int[] {0, 3, 3}, new int[] {3, 1, 3}, new int[] {1, 2, 9}),
            new int[] {3, 1, 0}, new int[] {3, 9, 3});
        // In X are 1 and 4 alone: 2 and 3 stay with node 0.
        checkTree(Graphs.of(5, new int[] {0, 1, 2}, new int[] {1, 4, 8}, new int[] {0, 2, 3}, new int[] {0, 3, 4}),
            new int[] {0, 0, 0, 1}, new int[] {2, 3, 4, 8});
    }

    private static void parentOfTheParent() {
        checks.sentence("if t has a parent and this parent is in X, the parent of s becomes the parent of t, the label"
            + " of s becomes the label of t, the parent of t becomes s, and the label of t becomes f; otherwise the"
            + " label of s becomes f");
        // t is node 0, which has no parent.
        checkTree(Graphs.of(3, new int[] {0, 1, 4}, new int[] {0, 2, 5}), new int[] {0, 0}, new int[] {4, 5});
        // t has a parent, which is not in X.
        checkTree(Graphs.chain(4, 5), new int[] {0, 1}, new int[] {4, 5});
        // The parent is in X, and is node 0: the chain 0 - 2 - 1.
        checkTree(Graphs.of(3, new int[] {0, 2, 4}, new int[] {2, 1, 5}), new int[] {2, 0}, new int[] {5, 4});
        // Another child of t, which is in X too, goes with s: the chain 0 - 3 - 1 - 2.
        checkTree(Graphs.of(4, new int[] {0, 3, 3}, new int[] {3, 1, 5}, new int[] {1, 2, 9}),
            new int[] {3, 1, 0}, new int[] {5, 9, 3});
        // The parent is in X, and is node 1: the chain 0 - 1 - 3 - 2.
        checkTree(Graphs.of(4, new int[] {0, 1, 3}, new int[] {1, 3, 5}, new int[] {3, 2, 9}),
            new int[] {0, 3, 1}, new int[] {3, 9, 5});
        // Place for place up to the top: the chain 0 - 4 - 3 - 2 - 1.
        checkTree(Graphs.of(5, new int[] {0, 4, 2}, new int[] {4, 3, 3}, new int[] {3, 2, 4}, new int[] {2, 1, 5}),
            new int[] {2, 3, 4, 0}, new int[] {5, 4, 3, 2});
    }

    /** Parents and labels of the nodes from 1 on. */
    private static void checkTree(CutTreeKeeper x, int[] parents, int[] labels) {
        checks.due("build()", x.build(), parents.length);
        for (int k = 0; k < parents.length; k++) {
            checks.due("parent(" + (k + 1) + ")", x.parent(k + 1), parents[k]);
            checks.due("label(" + (k + 1) + ")", x.label(k + 1), labels[k]);
        }
    }

    private static void sides() {
        checks.sentence("The side of a node other than 0 in the finished tree is the set of this node and all nodes"
            + " below it (children, their children, and so on)");
        CutTreeKeeper x = Graphs.chain(9, 9, 9, 9, 9, 9, 9, 9, 9, 9, 9);
        x.build();
        for (int node = 0; node < 12; node++) {
            checks.due("side(" + node + ") of the chain", x.side(node), 4095 & -1 << node);
        }
        // The chain 0 - 11 - 10 and so on to 1: node 11 has ten levels below it.
        x = Graphs.of(12, new int[] {0, 11, 9});
        for (int node = 11; node > 1; node--) {
            x.setCapacity(node, node - 1, 9);
        }
        x.build();
        for (int node = 1; node < 12; node++) {
            checks.due("side(" + node + ") of the chain backwards", x.side(node), (2 << node) - 2);
        }
        checks.due("side(0) of the chain backwards", x.side(0), 4095);
        x = Graphs.empty(2);
        x.build();
        checks.due("side(1) of two", x.side(1), 2);
    }

    private static void sideIsAMinimumCut() {
        checks.sentence("It is a cut with the label of the node as its weight, and a minimum cut of the node and its"
            + " parent");
        for (int n = 2; n <= 12; n++) {
            CutTreeKeeper x = mixed(n, n);
            x.build();
            for (int node = 1; node < n; node++) {
                checks.due("cutWeight(side(" + node + ")) of " + n, x.cutWeight(x.side(node)), x.label(node));
                checks.holds("side(" + node + ") parts it from its parent",
                    (x.side(node) >> node & 1) == 1 && (x.side(node) >> x.parent(node) & 1) == 0);
                checks.due("least of all cuts of " + node, leastOfAll(n, n, node, x.parent(node)), x.label(node));
            }
        }
    }

    /** A graph whose capacities look unordered. */
    private static CutTreeKeeper mixed(int n, int kind) {
        CutTreeKeeper x = Graphs.empty(n);
        for (int u = 0; u < n; u++) {
            for (int v = u + 1; v < n; v++) {
                x.setCapacity(u, v, mixedCapacity(u, v, kind));
            }
        }
        return x;
    }

    private static int mixedCapacity(int u, int v, int kind) {
        int sum = Math.min(u, v) * 131 + Math.max(u, v) * 71 + kind * 37;
        return sum * sum % 7 < 4 ? sum * sum % 23 : 0;
    }

    private static int leastOfAll(int n, int kind, int s, int t) {
        int least = Integer.MAX_VALUE;
        for (int set = 1; set < Graphs.all(n); set++) {
            if ((set >> s & 1) == (set >> t & 1)) continue;
            int weight = 0;
            for (int u = 0; u < n; u++) {
                for (int v = u + 1; v < n; v++) {
                    if ((set >> u & 1) != (set >> v & 1)) weight += mixedCapacity(u, v, kind);
                }
            }
            least = Math.min(least, weight);
        }
        return least;
    }

    // ---- the stored tree

    private static void storedUntil() {
        checks.sentence("A tree is stored by building it, with the capacities that the graph has then, until it is"
            + " built anew or removed by reset()");
        CutTreeKeeper x = Graphs.chain(4, 5);
        checks.due("label(2), not yet built", x.label(2), -4);
        x.minimumCut(0, 1);
        checks.due("label(2), built by a question", x.label(2), 5);
        for (int k = 0; k < 100; k++) {
            x.setCapacity(1, 2, k);
        }
        checks.due("label(2) after a hundred changes", x.label(2), 5);
        checks.due("parent(2) after a hundred changes", x.parent(2), 1);
        x.undo();
        checks.due("label(2) after undo()", x.label(2), 5);
        x.reset(13);
        checks.due("label(2) after a refused reset", x.label(2), 5);
        checks.due("build()", x.build(), 2);
        checks.due("label(2), built anew", x.label(2), 98);
        x.reset(3);
        checks.due("label(2) after reset(3)", x.label(2), -4);
        checks.due("side(0) after reset(3)", x.side(0), -4);
        checks.due("isFresh() after reset(3)", x.isFresh(), 0);
    }

    private static void freshAsLongAs() {
        checks.sentence("It is fresh as long as all capacities are as they were when it was built, also if they were"
            + " changed in between");
        CutTreeKeeper x = Graphs.full(12, 5);
        x.build();
        for (int u = 0; u < 12; u++) {
            int v = (u + 1) % 12;
            x.setCapacity(u, v, 5);
            checks.due("isFresh(), set to the same", x.isFresh(), 1);
            x.setCapacity(u, v, 6);
            checks.due("isFresh(), 1 more", x.isFresh(), 0);
            x.setCapacity(v, u, 4);
            checks.due("isFresh(), 1 less", x.isFresh(), 0);
            x.setCapacity(v, u, 5);
            checks.due("isFresh(), set back", x.isFresh(), 1);
        }
        // More changes than the list keeps: only setting them back helps.
        x = Graphs.chain(3);
        x.build();
        for (int value = 4; value <= 44; value++) {
            x.setCapacity(0, 1, value);
        }
        for (int k = 0; k < 40; k++) {
            x.undo();
        }
        checks.due("capacity(0, 1), all taken back", x.capacity(0, 1), 4);
        checks.due("isFresh(), all taken back", x.isFresh(), 0);
        x.setCapacity(0, 1, 3);
        checks.due("isFresh(), set back", x.isFresh(), 1);
        checks.due("count(3)", x.count(3), 1);
    }

    private static void pathOfTwoNodes() {
        checks.sentence("The path of two nodes in the tree consists of all nodes other than 0 whose side separates"
            + " them");
        // Two branches: 0 - 1 - 2 with 8 and 9, and 0 - 3 - 4 with 6 and 7.
        CutTreeKeeper x = Graphs.of(5, new int[] {0, 1, 8}, new int[] {1, 2, 9}, new int[] {0, 3, 6},
            new int[] {3, 4, 7});
        x.build();
        int[][] due = {{0, 8, 8, 6, 6}, {8, 0, 9, 6, 6}, {8, 9, 0, 6, 6}, {6, 6, 6, 0, 7}, {6, 6, 6, 7, 0}};
        for (int s = 0; s < 5; s++) {
            for (int t = 0; t < 5; t++) {
                if (s == t) continue;
                checks.due("lowerBound(" + s + ", " + t + ")", x.lowerBound(s, t), due[s][t]);
                checks.due("upperBound(" + s + ", " + t + ")", x.upperBound(s, t), due[s][t]);
            }
        }
    }

    private static void upperBound() {
        checks.sentence("The upper bound is the least present weight of the sides of the nodes on their path");
        CutTreeKeeper x = Graphs.chain(5, 3, 4);
        x.build();
        x.setCapacity(1, 2, 4);
        checks.due("upperBound(0, 3), two sides of 4", x.upperBound(0, 3), 4);
        x.setCapacity(1, 2, 6);
        checks.due("upperBound(0, 3), the last side is lightest", x.upperBound(0, 3), 4);
        x.setCapacity(2, 3, 7);
        checks.due("upperBound(3, 0), the first side is lightest", x.upperBound(3, 0), 5);
        checks.due("upperBound(1, 3), the first side is not on the path", x.upperBound(1, 3), 6);
        x.setCapacity(0, 3, 999);
        checks.due("upperBound(0, 3), above all labels", x.upperBound(0, 3), 999 + 5);
        checks.due("lowerBound(0, 3)", x.lowerBound(0, 3), 3);
    }

    private static void lowerBound() {
        checks.sentence("The lower bound is the least label on their path minus the loss, but at least 0");
        CutTreeKeeper x = Graphs.chain(9, 4);
        x.build();
        int[] losses = {0, 1, 3, 4, 5, 9};
        int[] near = {9, 8, 6, 5, 4, 0};
        int[] far = {4, 3, 1, 0, 0, 0};
        for (int k = 0; k < losses.length; k++) {
            x.setCapacity(0, 1, 9 - losses[k]);
            checks.due("loss()", x.loss(), losses[k]);
            checks.due("lowerBound(0, 1), loss " + losses[k], x.lowerBound(0, 1), near[k]);
            checks.due("lowerBound(2, 0), loss " + losses[k], x.lowerBound(2, 0), far[k]);
        }
        x.setCapacity(1, 2, 3);
        checks.due("lowerBound(0, 1), loss 10", x.lowerBound(0, 1), 0);
        x.setCapacity(0, 1, 999);
        checks.due("lowerBound(0, 1), a gain does not lift it", x.lowerBound(0, 1), 8);
    }

    private static void loss() {
        checks.sentence("The loss is the sum, over all pairs of nodes, of the capacity when the tree was built minus"
            + " the present capacity, where this is above 0");
        CutTreeKeeper x = Graphs.full(12, 999);
        x.build();
        Graphs.setAll(x, 12, 0);
        checks.due("loss(), the greatest", x.loss(), 66 * 999);
        checks.due("lowerBound(0, 11)", x.lowerBound(0, 11), 0);
        checks.due("upperBound(0, 11)", x.upperBound(0, 11), 0);
        Graphs.setAll(x, 12, 998);
        checks.due("loss(), 1 for each pair", x.loss(), 66);
        x = Graphs.of(4, new int[] {2, 3, 5}, new int[] {0, 1, 5});
        x.build();
        x.setCapacity(2, 3, 6);
        checks.due("loss(), 1 more", x.loss(), 0);
        x.setCapacity(1, 0, 4);
        checks.due("loss(), 1 less of another pair", x.loss(), 1);
        x.setCapacity(1, 2, 999);
        checks.due("loss(), a gain far above it", x.loss(), 1);
        x.setCapacity(3, 2, 0);
        checks.due("loss(), two pairs", x.loss(), 6);
        x.setCapacity(3, 2, 5);
        x.setCapacity(0, 1, 5);
        checks.due("loss(), set back", x.loss(), 0);
    }

    private static void betweenBothBounds() {
        checks.sentence("The minimum cut value lies between both bounds. If the tree is fresh, both are equal to it");
        for (int kind = 0; kind < 40; kind++) {
            CutTreeKeeper x = mixed(6, kind);
            x.build();
            for (int s = 0; s < 6; s++) {
                for (int t = s + 1; t < 6; t++) {
                    int value = leastOfAll(6, kind, s, t);
                    checks.due("lowerBound, fresh", x.lowerBound(s, t), value);
                    checks.due("upperBound, fresh", x.upperBound(t, s), value);
                }
            }
            for (int u = 0; u < 6; u++) {
                for (int v = u + 1; v < 6; v++) {
                    x.setCapacity(u, v, mixedCapacity(u, v, kind + 1));
                }
            }
            for (int s = 0; s < 6; s++) {
                for (int t = s + 1; t < 6; t++) {
                    int value = leastOfAll(6, kind + 1, s, t);
                    checks.holds("lowerBound(" + s + ", " + t + ") of " + kind, x.lowerBound(s, t) <= value);
                    checks.holds("upperBound(" + s + ", " + t + ") of " + kind, x.upperBound(s, t) >= value);
                }
            }
        }
    }

    // ---- lazy building

    private static void builtIfNoneIsStored() {
        checks.sentence("if no tree is stored, it is always built");
        for (int n = 2; n <= 12; n++) {
            CutTreeKeeper x = Graphs.empty(n);
            checks.due("minimumCut(0, 1)", x.minimumCut(0, 1), 0);
            checks.due("flows of minimumCut, " + n + " nodes", x.count(3), n - 1);
            x.reset(n);
            checks.due("witness(1, 0)", x.witness(1, 0), 2);
            checks.due("flows of witness, " + n + " nodes", x.count(3), n - 1);
            x.reset(n);
            checks.due("isAtLeast(0, 1, 0)", x.isAtLeast(0, 1, 0), 1);
            checks.due("flows of isAtLeast(0, 1, 0), " + n + " nodes", x.count(3), n - 1);
            x.reset(n);
            checks.due("isAtLeast(0, 1, 20000)", x.isAtLeast(0, 1, 20000), 0);
            checks.due("flows of isAtLeast(0, 1, 20000), " + n + " nodes", x.count(3), n - 1);
            checks.due("isFresh()", x.isFresh(), 1);
        }
    }

    private static void othersThatNeedAFreshTree() {
        checks.sentence("All others that need a fresh tree build it if it is not fresh, and not otherwise");
        for (int which = 0; which < 7; which++) {
            CutTreeKeeper x = Graphs.chain(3, 2, 1);
            needFresh(x, which);
            checks.due(which + ": count(3), no tree", x.count(3), 3);
            needFresh(x, which);
            checks.due(which + ": count(3), fresh", x.count(3), 3);
            x.setCapacity(0, 1, 4);
            x.setCapacity(0, 1, 3);
            needFresh(x, which);
            checks.due(which + ": count(3), fresh again", x.count(3), 3);
            // The bounds of all pairs but 0 and 1 meet; that does not count here.
            x.setCapacity(0, 1, 4);
            needFresh(x, which);
            checks.due(which + ": count(3), 1 more", x.count(3), 6);
            x.setCapacity(2, 3, 0);
            needFresh(x, which);
            checks.due(which + ": count(3), 1 less", x.count(3), 9);
            checks.due(which + ": isFresh()", x.isFresh(), 1);
            x.undo();
            needFresh(x, which);
            checks.due(which + ": count(3), as it was for the tree before", x.count(3), 12);
            x.reset(4);
            needFresh(x, which);
            checks.due(which + ": count(3), after reset", x.count(3), 3);
        }
    }

    private static void needFresh(CutTreeKeeper x, int which) {
        switch (which) {
            case 0 -> x.build();
            case 1 -> x.lightCut(0);
            case 2 -> x.lightCut(3);
            case 3 -> x.classCount(0);
            case 4 -> x.classOf(0, 20000);
            case 5 -> x.partner(3);
            default -> x.leastAcross(1);
        }
    }

    private static void othersBuildNothing() {
        checks.sentence("Some methods decide by the bounds whether the tree has to be built");
        CutTreeKeeper x = Graphs.chain(3, 2, 1);
        onlyLook(x);
        checks.due("count(3), no tree", x.count(3), 0);
        checks.due("isFresh(), no tree", x.isFresh(), 0);
        x.build();
        x.setCapacity(0, 1, 9);
        onlyLook(x);
        checks.due("count(3), not fresh", x.count(3), 3);
        checks.due("isFresh(), not fresh", x.isFresh(), 0);
        checks.due("label(1), not fresh", x.label(1), 3);
    }

    private static void onlyLook(CutTreeKeeper x) {
        x.count(0);
        x.count(1);
        x.count(2);
        x.capacity(0, 1);
        x.cutWeight(1);
        x.isFresh();
        x.parent(1);
        x.label(1);
        x.side(1);
        x.loss();
        x.lowerBound(0, 1);
        x.upperBound(0, 1);
        x.setCapacity(0, 3, 1);
        x.undo();
    }

    private static void oneFlowForEachNode() {
        checks.sentence("Each building takes one flow for each node other than 0");
        for (int n = 2; n <= 12; n++) {
            CutTreeKeeper x = Graphs.full(n, 1);
            for (int times = 1; times <= 5; times++) {
                x.setCapacity(0, n - 1, times + 1);
                checks.due("build() of " + n, x.build(), n - 1);
                checks.due("count(3) of " + n, x.count(3), times * (n - 1));
            }
        }
    }

    // ---- errors

    private static void noneIsNoError() {
        checks.sentence("NONE is returned only if no error applies");
        for (int n = 2; n <= 12; n++) {
            CutTreeKeeper x = Graphs.empty(n);
            checks.due("parent(0) of " + n + ", no tree", x.parent(0), -4);
            checks.due("label(0) of " + n + ", no tree", x.label(0), -4);
            checks.due("lightCut(-1) of " + n + ", no tree", x.lightCut(-1), -3);
            checks.due("count(3) of " + n + ", nothing built so far", x.count(3), 0);
            checks.due("lightCut(" + (n - 1) + ") of " + n, x.lightCut(n - 1), -5);
            checks.due("count(3) of " + n + ", built for NONE", x.count(3), n - 1);
            checks.due("parent(0) of " + n, x.parent(0), -5);
            checks.due("label(0) of " + n, x.label(0), -5);
            x.setCapacity(0, 1, 1);
            checks.due("parent(0) of " + n + ", not fresh", x.parent(0), -5);
            checks.due("label(0) of " + n + ", not fresh", x.label(0), -5);
            checks.due("parent(" + n + ")", x.parent(n), -1);
            checks.due("label(-1)", x.label(-1), -1);
            x.reset(n);
            checks.due("parent(0) of " + n + ", removed", x.parent(0), -4);
            checks.due("label(0) of " + n + ", removed", x.label(0), -4);
            checks.due("undo() of " + n, x.undo(), -5);
        }
    }
}
