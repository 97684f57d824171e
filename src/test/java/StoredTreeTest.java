/** Promises 8 to 15: build, isFresh, parent, label, side, loss, lowerBound, upperBound. */
public final class StoredTreeTest {
    private static final int LOWEST = Integer.MIN_VALUE;
    private static final int HIGHEST = Integer.MAX_VALUE;
    private static final Checks checks = new Checks();

    public static void main(String[] args) {
        build();
        isFresh();
        chain();
        parentAndChildChangePlaces();
        nearCutIsTheSmallest();
        sizesOfGraphs();
        nodesRefused();
        treeStaysAsBuilt();
        loss();
        bounds();
        lowerBoundIsNotBelowZero();
        boundsRefuse();
        checks.end();
    }

    private static CutTreeKeeper chainOfFour() {
        CutTreeKeeper x = new CutTreeKeeper();
        x.setCapacity(0, 1, 10);
        x.setCapacity(1, 2, 4);
        x.setCapacity(2, 3, 7);
        return x;
    }

    private static void build() {
        CutTreeKeeper x = chainOfFour();
        checks.due("build()", x.build(), 3);
        checks.due("build() again", x.build(), 0);
        checks.due("count(3)", x.count(3), 3);
        x.setCapacity(0, 1, 9);
        checks.due("build() after a change", x.build(), 3);
        checks.due("label(1)", x.label(1), 9);
        checks.due("count(3)", x.count(3), 6);
        x.setCapacity(0, 1, 9);
        checks.due("build() after a change to the same", x.build(), 0);
        x.setCapacity(0, 1, 10);
        x.undo();
        checks.due("build() after undo()", x.build(), 0);
        checks.due("count(3)", x.count(3), 6);
        x.reset(2);
        checks.due("build() of 2 nodes", x.build(), 1);
        x.reset(12);
        checks.due("build() of 12 nodes", x.build(), 11);
        checks.due("count(3)", x.count(3), 11);
    }

    private static void isFresh() {
        CutTreeKeeper x = chainOfFour();
        checks.due("isFresh()", x.isFresh(), 0);
        checks.due("count(3)", x.count(3), 0);
        x.build();
        checks.due("isFresh()", x.isFresh(), 1);
        x.setCapacity(3, 0, 0);
        checks.due("isFresh() after a change to the same", x.isFresh(), 1);
        x.setCapacity(3, 0, 1);
        checks.due("isFresh() after a change upwards", x.isFresh(), 0);
        x.setCapacity(0, 1, 9);
        x.setCapacity(0, 3, 0);
        checks.due("isFresh() with another pair changed", x.isFresh(), 0);
        x.setCapacity(1, 0, 10);
        checks.due("isFresh() with all as before", x.isFresh(), 1);
        x.undo();
        checks.due("isFresh() after undo() of this", x.isFresh(), 0);
        checks.due("count(3)", x.count(3), 3);
        x.build();
        checks.due("isFresh()", x.isFresh(), 1);
        x.undo();
        checks.due("isFresh() with the capacities of the tree before", x.isFresh(), 0);
    }

    private static void chain() {
        CutTreeKeeper x = chainOfFour();
        x.build();
        int[] parents = {-5, 0, 1, 2};
        int[] labels = {-5, 10, 4, 7};
        int[] sides = {15, 14, 12, 8};
        for (int node = 0; node < 4; node++) {
            checks.due("parent(" + node + ")", x.parent(node), parents[node]);
            checks.due("label(" + node + ")", x.label(node), labels[node]);
            checks.due("side(" + node + ")", x.side(node), sides[node]);
        }
    }

    /** The chain 0 - 2 - 1: node 2 comes between node 1 and its parent. */
    private static void parentAndChildChangePlaces() {
        CutTreeKeeper x = new CutTreeKeeper();
        x.reset(3);
        x.setCapacity(0, 2, 3);
        x.setCapacity(2, 1, 5);
        x.build();
        checks.due("parent(1)", x.parent(1), 2);
        checks.due("label(1)", x.label(1), 5);
        checks.due("side(1)", x.side(1), 2);
        checks.due("parent(2)", x.parent(2), 0);
        checks.due("label(2)", x.label(2), 3);
        checks.due("side(2)", x.side(2), 6);
        // With equal capacities node 1 is cut off alone at first, and is below node 2 all the same.
        x.reset(3);
        x.setCapacity(0, 2, 3);
        x.setCapacity(2, 1, 3);
        x.build();
        checks.due("parent(1) with equal capacities", x.parent(1), 2);
        checks.due("parent(2) with equal capacities", x.parent(2), 0);
        checks.due("label(1) with equal capacities", x.label(1), 3);
        checks.due("label(2) with equal capacities", x.label(2), 3);
        checks.due("side(2) with equal capacities", x.side(2), 6);
    }

    /** A ring of three: of two equal cuts around node 1 the near cut is the one without node 2. */
    private static void nearCutIsTheSmallest() {
        CutTreeKeeper x = new CutTreeKeeper();
        x.reset(3);
        x.setCapacity(0, 1, 1);
        x.setCapacity(1, 2, 1);
        x.setCapacity(2, 0, 1);
        x.build();
        checks.due("parent(1) in the ring", x.parent(1), 0);
        checks.due("parent(2) in the ring", x.parent(2), 0);
        checks.due("side(1) in the ring", x.side(1), 2);
        checks.due("side(2) in the ring", x.side(2), 4);
        checks.due("label(2) in the ring", x.label(2), 2);
    }

    private static void sizesOfGraphs() {
        CutTreeKeeper x = new CutTreeKeeper();
        for (int nodes = 2; nodes <= 12; nodes++) {
            x.reset(nodes);
            checks.due("build() of " + nodes, x.build(), nodes - 1);
            checks.due("side(0) of " + nodes, x.side(0), (1 << nodes) - 1);
            checks.due("label of the last of " + nodes, x.label(nodes - 1), 0);
            checks.due("parent of the last of " + nodes, x.parent(nodes - 1), 0);
            checks.due("side of the last of " + nodes, x.side(nodes - 1), 1 << nodes - 1);
        }
        for (int u = 0; u < 12; u++) {
            for (int v = u + 1; v < 12; v++) {
                x.setCapacity(u, v, 999);
            }
        }
        x.build();
        for (int node = 1; node < 12; node++) {
            checks.due("label(" + node + ") in the fullest graph", x.label(node), 11 * 999);
            checks.due("side(" + node + ") in the fullest graph", x.side(node), 1 << node);
        }
        checks.due("isFresh() in the fullest graph", x.isFresh(), 1);
        x.setCapacity(10, 11, 0);
        checks.due("isFresh() in the fullest graph", x.isFresh(), 0);
        checks.due("loss() in the fullest graph", x.loss(), 999);
        checks.due("lowerBound(0, 11) in the fullest graph", x.lowerBound(0, 11), 10 * 999);
        checks.due("upperBound(0, 11) in the fullest graph", x.upperBound(0, 11), 10 * 999);
        checks.due("lowerBound(0, 9) in the fullest graph", x.lowerBound(0, 9), 10 * 999);
        checks.due("upperBound(0, 9) in the fullest graph", x.upperBound(0, 9), 11 * 999);
    }

    private static void nodesRefused() {
        CutTreeKeeper x = new CutTreeKeeper();
        for (int stored = 0; stored < 2; stored++) {
            for (int node : new int[] {-1, 4, 12, LOWEST, HIGHEST}) {
                checks.due("parent(" + node + ")", x.parent(node), -1);
                checks.due("label(" + node + ")", x.label(node), -1);
                checks.due("side(" + node + ")", x.side(node), -1);
            }
            for (int node = 0; node < 4 && stored == 0; node++) {
                checks.due("parent(" + node + ")", x.parent(node), -4);
                checks.due("label(" + node + ")", x.label(node), -4);
                checks.due("side(" + node + ")", x.side(node), -4);
            }
            checks.due("count(3)", x.count(3), stored * 3);
            x.build();
        }
    }

    private static void treeStaysAsBuilt() {
        CutTreeKeeper x = chainOfFour();
        x.build();
        x.setCapacity(1, 2, 0);
        x.setCapacity(0, 3, 900);
        checks.due("parent(2) after changes", x.parent(2), 1);
        checks.due("label(2) after changes", x.label(2), 4);
        checks.due("side(2) after changes", x.side(2), 12);
        checks.due("side(0) after changes", x.side(0), 15);
        checks.due("count(3) after changes", x.count(3), 3);
        checks.due("isFresh() after changes", x.isFresh(), 0);
    }

    private static void loss() {
        CutTreeKeeper x = chainOfFour();
        checks.due("loss() without a tree", x.loss(), -4);
        x.build();
        checks.due("loss()", x.loss(), 0);
        x.setCapacity(0, 1, 8);
        checks.due("loss()", x.loss(), 2);
        x.setCapacity(3, 2, 0);
        checks.due("loss() of two pairs", x.loss(), 9);
        x.setCapacity(1, 2, 99);
        checks.due("loss() with a gain", x.loss(), 9);
        x.undo();
        x.undo();
        checks.due("loss() after undo()", x.loss(), 2);
        x.setCapacity(0, 1, 9);
        checks.due("loss() is from the building", x.loss(), 1);
        x.build();
        checks.due("loss() of a new tree", x.loss(), 0);
        x.reset(4);
        checks.due("loss() after reset", x.loss(), -4);
    }

    private static void bounds() {
        CutTreeKeeper x = chainOfFour();
        x.build();
        checks.due("lowerBound(0, 3)", x.lowerBound(0, 3), 4);
        checks.due("upperBound(0, 3)", x.upperBound(0, 3), 4);
        checks.due("lowerBound(3, 2)", x.lowerBound(3, 2), 7);
        x.setCapacity(1, 2, 20);
        checks.due("lowerBound(0, 3) after a gain", x.lowerBound(0, 3), 4);
        checks.due("upperBound(0, 3) after a gain", x.upperBound(0, 3), 7);
        checks.due("upperBound(3, 0) after a gain", x.upperBound(3, 0), 7);
        checks.due("upperBound(1, 2) after a gain", x.upperBound(1, 2), 20);
        x.setCapacity(0, 1, 9);
        checks.due("lowerBound(0, 3) after a loss", x.lowerBound(0, 3), 3);
        checks.due("lowerBound(0, 1) after a loss", x.lowerBound(0, 1), 9);
        checks.due("upperBound(0, 1) after a loss", x.upperBound(0, 1), 9);
        checks.due("lowerBound(3, 2) after a loss", x.lowerBound(3, 2), 6);
        checks.due("upperBound(3, 2) after a loss", x.upperBound(3, 2), 7);
        checks.due("count(3)", x.count(3), 3);
    }

    private static void lowerBoundIsNotBelowZero() {
        CutTreeKeeper x = chainOfFour();
        x.build();
        x.setCapacity(0, 1, 6);
        checks.due("lowerBound(1, 2) at 0", x.lowerBound(1, 2), 0);
        x.setCapacity(0, 1, 0);
        checks.due("lowerBound(1, 2) below 0", x.lowerBound(1, 2), 0);
        checks.due("upperBound(1, 2)", x.upperBound(1, 2), 4);
        checks.due("upperBound(0, 3)", x.upperBound(0, 3), 0);
    }

    private static void boundsRefuse() {
        CutTreeKeeper x = chainOfFour();
        for (int stored = 0; stored < 2; stored++) {
            int[][] noNodes = {{-1, 0}, {0, -1}, {4, 0}, {0, 4}, {4, 4}, {-1, -1}, {LOWEST, HIGHEST}};
            for (int[] pair : noNodes) {
                checks.due("lowerBound, no node", x.lowerBound(pair[0], pair[1]), -1);
                checks.due("upperBound, no node", x.upperBound(pair[0], pair[1]), -1);
            }
            checks.due("lowerBound(3, 3)", x.lowerBound(3, 3), -2);
            checks.due("upperBound(3, 3)", x.upperBound(3, 3), -2);
            if (stored == 0) {
                checks.due("lowerBound(0, 3) without a tree", x.lowerBound(0, 3), -4);
                checks.due("upperBound(0, 3) without a tree", x.upperBound(0, 3), -4);
            }
            checks.due("count(3)", x.count(3), stored * 3);
            x.build();
        }
    }
}
