/** The sentences of the promises that name a boundary, a method for each promise. */
public final class PromiseSentencesTest {
    private static final int HIGHEST = Integer.MAX_VALUE;
    private static final Checks checks = new Checks();

    public static void main(String[] args) {
        newObject();
        reset();
        setCapacity();
        undo();
        capacity();
        count();
        cutWeight();
        build();
        isFresh();
        parent();
        label();
        side();
        loss();
        lowerBound();
        upperBound();
        minimumCut();
        witness();
        isAtLeast();
        lightCut();
        classCount();
        classOf();
        partner();
        leastAcross();
        checks.end();
    }

    // ---- the graph

    private static void newObject() {
        checks.sentence("1: Creates a graph of 4 nodes without edges");
        CutTreeKeeper x = new CutTreeKeeper();
        checks.due("count(0)", x.count(0), 4);
        checks.due("count(1)", x.count(1), 0);
        checks.due("capacity(0, 3)", x.capacity(0, 3), 0);
        checks.due("capacity(0, 4)", x.capacity(0, 4), -1);
        checks.due("cutWeight(14)", x.cutWeight(14), 0);
        checks.due("cutWeight(15)", x.cutWeight(15), -3);
        checks.sentence("1: no tree is stored, and no flow has been computed");
        checks.due("isFresh()", x.isFresh(), 0);
        checks.due("parent(0)", x.parent(0), -4);
        checks.due("loss()", x.loss(), -4);
        checks.due("count(3)", x.count(3), 0);
        checks.due("undo()", x.undo(), -5);
        checks.due("count(2)", x.count(2), 0);
        checks.due("build()", x.build(), 3);
    }

    private static void reset() {
        checks.sentence("2: Starts anew with a graph without edges");
        for (int n = 2; n <= 12; n++) {
            CutTreeKeeper x = Graphs.full(12, 999);
            x.reset(n);
            checks.due("count(1) of " + n, x.count(1), 0);
            checks.due("cutWeight(1) of " + n, x.cutWeight(1), 0);
            x.reset(12);
            checks.due("count(1) of 12 after " + n, x.count(1), 0);
            checks.due("capacity(10, 11) of 12 after " + n, x.capacity(10, 11), 0);
            checks.due("minimumCut(0, 11) of 12 after " + n, x.minimumCut(0, 11), 0);
        }
        checks.sentence("2: The stored tree and the list of changes are removed; the number of flows becomes 0");
        CutTreeKeeper x = Graphs.chain(3, 2, 1);
        x.build();
        checks.due("reset(4), the same number", x.reset(4), 4);
        checks.due("side(3)", x.side(3), -4);
        checks.due("isFresh()", x.isFresh(), 0);
        checks.due("count(2)", x.count(2), 0);
        checks.due("undo()", x.undo(), -5);
        checks.due("count(3)", x.count(3), 0);
        x.build();
        x.reset(4);
        // All capacities are as they were for the tree, which is gone all the same.
        checks.due("isFresh(), no edges before and after", x.isFresh(), 0);
        checks.due("loss(), no edges before and after", x.loss(), -4);
        for (int k = 1; k <= 50; k++) {
            x.setCapacity(0, 1, k);
        }
        x.reset(2);
        checks.due("undo() after a full list", x.undo(), -5);
        checks.due("capacity(0, 1) after a full list", x.capacity(0, 1), 0);
        x.setCapacity(0, 1, 7);
        checks.due("undo() of the first new change", x.undo(), 0);
        checks.due("capacity(0, 1)", x.capacity(0, 1), 0);
        checks.sentence("2: nodes: the number of nodes, 2 to 12");
        x.reset(2);
        checks.due("count(0), the fewest", x.count(0), 2);
        x.reset(1);
        checks.due("count(0), too few", x.count(0), 2);
        x.reset(12);
        checks.due("count(0), the most", x.count(0), 12);
        x.reset(13);
        checks.due("count(0), too many", x.count(0), 12);
        x.reset(2);
        checks.sentence("2: Returns the previous number of nodes; BAD_VALUE");
        int[] numbers = {2, 1, 12, 13, 12, 0, 11, -1, 3, Integer.MIN_VALUE, 2, HIGHEST, 4};
        int[] answers = {2, -3, 2, -3, 12, -3, 12, -3, 11, -3, 3, -3, 2};
        for (int k = 0; k < numbers.length; k++) {
            checks.due("reset(" + numbers[k] + ")", x.reset(numbers[k]), answers[k]);
        }
    }

    private static void setCapacity() {
        checks.sentence("3: This is a change, also if it was so before");
        CutTreeKeeper x = new CutTreeKeeper();
        checks.due("setCapacity(0, 1, 0)", x.setCapacity(0, 1, 0), 0);
        checks.due("count(2)", x.count(2), 1);
        x.setCapacity(2, 3, 999);
        checks.due("setCapacity(3, 2, 999)", x.setCapacity(3, 2, 999), 999);
        checks.due("count(2)", x.count(2), 3);
        checks.due("undo()", x.undo(), 2);
        checks.due("capacity(2, 3)", x.capacity(2, 3), 999);
        checks.sentence("3: the list of changes keeps the latest 40 of them");
        x = new CutTreeKeeper();
        for (int k = 1; k <= 39; k++) {
            x.setCapacity(0, 1, k);
        }
        checks.due("count(2) of 39", x.count(2), 39);
        x.setCapacity(0, 1, 40);
        checks.due("count(2) of 40", x.count(2), 40);
        x.setCapacity(0, 1, 1000);
        x.setCapacity(0, 0, 5);
        x.setCapacity(0, 4, 5);
        checks.due("count(2) after refused ones", x.count(2), 40);
        takeBackAll(x, 40, 0);
        for (int made = 41; made <= 130; made += 13) {
            x = new CutTreeKeeper();
            for (int k = 1; k <= made; k++) {
                x.setCapacity(k % 2, 1 - k % 2, k);
            }
            checks.due("count(2) of " + made, x.count(2), 40);
            takeBackAll(x, 40, made - 40);
        }
        // Changes to the same value push others out as well.
        x = new CutTreeKeeper();
        x.setCapacity(0, 1, 5);
        for (int k = 1; k <= 40; k++) {
            x.setCapacity(2, 3, 0);
        }
        takeBackAll(x, 40, 5);
        checks.sentence("3: capacity: 0 to 999");
        x.reset(4);
        int[] values = {999, 1000, 0, -1, 1, 998, 999};
        int[] answers = {0, -3, 999, -3, 0, 1, 998};
        for (int k = 0; k < values.length; k++) {
            checks.due("setCapacity(1, 2, " + values[k] + ")", x.setCapacity(1, 2, values[k]), answers[k]);
        }
        checks.sentence("3: Returns the previous capacity; NO_SUCH_NODE; SAME_NODE; BAD_VALUE");
        checks.due("setCapacity(2, 1, 5)", x.setCapacity(2, 1, 5), 999);
        checks.due("setCapacity(4, 4, 1000)", x.setCapacity(4, 4, 1000), -1);
        checks.due("setCapacity(3, 3, 1000)", x.setCapacity(3, 3, 1000), -2);
        checks.due("setCapacity(3, 2, 1000)", x.setCapacity(3, 2, 1000), -3);
    }

    private static void takeBackAll(CutTreeKeeper x, int changes, int capacity) {
        for (int left = changes - 1; left >= 0; left--) {
            checks.due("undo()", x.undo(), left);
        }
        checks.due("undo() of none", x.undo(), -5);
        checks.due("capacity(0, 1), all taken back", x.capacity(0, 1), capacity);
    }

    private static void undo() {
        checks.sentence("4: the capacity of its pair becomes what it was before this change, and the change is removed"
            + " from the list");
        CutTreeKeeper x = new CutTreeKeeper();
        x.setCapacity(0, 1, 5);
        x.setCapacity(2, 3, 999);
        x.setCapacity(1, 0, 5);
        x.setCapacity(0, 1, 0);
        checks.due("undo(), from 0 to 5", x.undo(), 3);
        checks.due("capacity(0, 1)", x.capacity(0, 1), 5);
        checks.due("undo(), from 5 to 5", x.undo(), 2);
        checks.due("capacity(1, 0)", x.capacity(1, 0), 5);
        checks.due("undo(), of another pair", x.undo(), 1);
        checks.due("capacity(2, 3)", x.capacity(2, 3), 0);
        checks.due("capacity(3, 2)", x.capacity(3, 2), 0);
        checks.due("count(2)", x.count(2), 1);
        // To take back is no change: the next undo() goes on, and does not bring 5 back.
        checks.due("undo(), the last", x.undo(), 0);
        checks.due("capacity(0, 1)", x.capacity(0, 1), 0);
        checks.sentence("4: NONE if it is empty (nothing changes then)");
        checks.due("undo()", x.undo(), -5);
        checks.due("undo()", x.undo(), -5);
        checks.due("count(2)", x.count(2), 0);
        x.setCapacity(0, 1, 8);
        checks.due("count(2)", x.count(2), 1);
        checks.due("undo()", x.undo(), 0);
        checks.due("capacity(0, 1)", x.capacity(0, 1), 0);
        for (int k = 1; k <= 41; k++) {
            x.setCapacity(0, 1, k);
        }
        for (int k = 1; k <= 40; k++) {
            x.undo();
        }
        x.build();
        checks.due("undo() of a change that was not kept", x.undo(), -5);
        checks.due("capacity(0, 1)", x.capacity(0, 1), 1);
        checks.due("isFresh()", x.isFresh(), 1);
        checks.sentence("4: Returns the number of changes that are left in the list");
        x = new CutTreeKeeper();
        for (int k = 1; k <= 60; k++) {
            x.setCapacity(0, 1, k);
        }
        // Back and forth over the place where the rows begin anew.
        for (int round = 0; round < 30; round++) {
            checks.due("undo(), full", x.undo(), 39);
            checks.due("undo(), not full", x.undo(), 38);
            x.setCapacity(0, 1, 900);
            x.setCapacity(0, 1, 901);
            x.setCapacity(0, 1, 902);
            checks.due("count(2)", x.count(2), 40);
        }
        checks.due("undo()", x.undo(), 39);
        checks.due("capacity(0, 1)", x.capacity(0, 1), 901);
    }

    private static void capacity() {
        checks.sentence("5: Returns the capacity of the pair; NO_SUCH_NODE; SAME_NODE");
        for (int n = 2; n <= 12; n++) {
            CutTreeKeeper x = Graphs.full(n, 999);
            for (int u = -1; u <= n; u++) {
                for (int v = -1; v <= n; v++) {
                    boolean are = u >= 0 && u < n && v >= 0 && v < n;
                    checks.due("capacity(" + u + ", " + v + ") of " + n, x.capacity(u, v), !are ? -1 : u == v ? -2 : 999);
                }
            }
        }
    }

    private static void count() {
        checks.sentence("6: 0 for nodes, 1 for pairs with a capacity above 0, 2 for changes in the list, 3 for flows"
            + " since the beginning or reset()");
        CutTreeKeeper x = new CutTreeKeeper();
        checkCounts(x, 4, 0, 0, 0);
        x = Graphs.full(12, 1);
        checkCounts(x, 12, 66, 40, 0);
        x.build();
        checkCounts(x, 12, 66, 40, 11);
        x.build();
        checkCounts(x, 12, 66, 40, 11);
        x.setCapacity(0, 1, 0);
        x.minimumCut(0, 2);
        checkCounts(x, 12, 65, 40, 22);
        x.undo();
        checkCounts(x, 12, 66, 39, 22);
        x.reset(2);
        checkCounts(x, 2, 0, 0, 0);
        x.setCapacity(0, 1, 1);
        x.witness(0, 1);
        checkCounts(x, 2, 1, 1, 1);
    }

    /** With "Returns how many there are; BAD_VALUE": the numbers before the first and behind the last. */
    private static void checkCounts(CutTreeKeeper x, int nodes, int edges, int changes, int flows) {
        checks.due("count(-1)", x.count(-1), -3);
        checks.due("count(0)", x.count(0), nodes);
        checks.due("count(1)", x.count(1), edges);
        checks.due("count(2)", x.count(2), changes);
        checks.due("count(3)", x.count(3), flows);
        checks.due("count(4)", x.count(4), -3);
    }

    private static void cutWeight() {
        checks.sentence("7: Returns its weight; BAD_VALUE if it is not a cut");
        CutTreeKeeper x = Graphs.chain(999);
        int[] weights = {-3, -3, 999, 999, -3, -3, -3};
        for (int set = -1; set <= 5; set++) {
            checks.due("cutWeight(" + set + ") of two", x.cutWeight(set), weights[set + 1]);
        }
        x.setCapacity(0, 1, 0);
        checks.due("cutWeight(1) of two, present capacity", x.cutWeight(1), 0);
        x = Graphs.full(12, 999);
        checks.due("cutWeight(4095)", x.cutWeight(4095), -3);
        checks.due("cutWeight(4094)", x.cutWeight(4094), 10989);
        checks.due("cutWeight(4096)", x.cutWeight(4096), -3);
        checks.due("cutWeight(4097)", x.cutWeight(4097), -3);
        checks.due("cutWeight(-4095)", x.cutWeight(-4095), -3);
        checks.due("count(3)", x.count(3), 0);
    }

    // ---- the stored tree

    private static void build() {
        checks.sentence("8: Builds the tree if no tree is stored or the stored one is not fresh");
        CutTreeKeeper y = Graphs.chain(3, 2);
        y.build();
        checks.due("label(1), none was stored", y.label(1), 3);
        y.setCapacity(0, 1, 4);
        y.setCapacity(0, 1, 3);
        y.build();
        checks.due("count(3), fresh", y.count(3), 2);
        y.setCapacity(0, 1, 4);
        // The bounds of 1 and 2 meet still, but no pair is asked for here.
        y.build();
        checks.due("label(1), not fresh", y.label(1), 4);
        checks.due("count(3), not fresh", y.count(3), 4);
        checks.sentence("8: Returns the number of flows for it, 0 if the tree is fresh");
        for (int n = 2; n <= 12; n++) {
            CutTreeKeeper x = Graphs.empty(n);
            checks.due("build() of " + n + ", none is stored", x.build(), n - 1);
            checks.due("build() of " + n + ", fresh", x.build(), 0);
            x.setCapacity(0, n - 1, 0);
            checks.due("build() of " + n + ", fresh still", x.build(), 0);
            x.setCapacity(0, n - 1, 1);
            checks.due("build() of " + n + ", not fresh", x.build(), n - 1);
            x.undo();
            checks.due("build() of " + n + ", not fresh by undo()", x.build(), n - 1);
            x.reset(n);
            checks.due("build() of " + n + ", removed", x.build(), n - 1);
        }
    }

    private static void isFresh() {
        checks.sentence("9: Returns 1 if a tree is stored and fresh, 0 otherwise");
        CutTreeKeeper x = Graphs.empty(2);
        checks.due("isFresh(), none is stored", x.isFresh(), 0);
        x.build();
        checks.due("isFresh(), stored", x.isFresh(), 1);
        x.setCapacity(1, 0, 1);
        checks.due("isFresh(), not as it was", x.isFresh(), 0);
        x.undo();
        checks.due("isFresh(), taken back", x.isFresh(), 1);
        x.reset(2);
        checks.due("isFresh(), removed", x.isFresh(), 0);
        x = Graphs.empty(12);
        x.build();
        x.setCapacity(11, 10, 1);
        checks.due("isFresh(), the last pair changed", x.isFresh(), 0);
        x.setCapacity(10, 11, 0);
        checks.due("isFresh(), the last pair set back", x.isFresh(), 1);
    }

    private static void parent() {
        checks.sentence("10: Returns its parent in the stored tree, NONE for node 0; NO_SUCH_NODE; NO_TREE");
        CutTreeKeeper x = Graphs.chain(3, 2, 1);
        int[] without = {-1, -4, -4, -4, -4, -1};
        int[] with = {-1, -5, 0, 1, 2, -1};
        for (int node = -1; node <= 4; node++) {
            checks.due("parent(" + node + "), no tree", x.parent(node), without[node + 1]);
        }
        x.build();
        x.setCapacity(0, 3, 999);
        for (int node = -1; node <= 4; node++) {
            checks.due("parent(" + node + ")", x.parent(node), with[node + 1]);
        }
        x.reset(3);
        checks.due("parent(3) after reset(3)", x.parent(3), -1);
        checks.due("parent(2) after reset(3)", x.parent(2), -4);
        checks.due("parent(0) after reset(3)", x.parent(0), -4);
    }

    private static void label() {
        checks.sentence("11: Returns its label in the stored tree, NONE for node 0; NO_SUCH_NODE; NO_TREE");
        CutTreeKeeper x = Graphs.chain(999, 0, 1);
        int[] without = {-1, -4, -4, -4, -4, -1};
        int[] with = {-1, -5, 999, 0, 1, -1};
        for (int node = -1; node <= 4; node++) {
            checks.due("label(" + node + "), no tree", x.label(node), without[node + 1]);
        }
        x.build();
        x.setCapacity(0, 3, 999);
        for (int node = -1; node <= 4; node++) {
            checks.due("label(" + node + ")", x.label(node), with[node + 1]);
        }
        x.reset(3);
        checks.due("label(3) after reset(3)", x.label(3), -1);
        checks.due("label(2) after reset(3)", x.label(2), -4);
        checks.due("label(0) after reset(3)", x.label(0), -4);
    }

    private static void side() {
        checks.sentence("12: Returns its side in the stored tree, all nodes for node 0; NO_SUCH_NODE; NO_TREE");
        CutTreeKeeper x = Graphs.chain(3, 2, 1);
        int[] without = {-1, -4, -4, -4, -4, -1};
        int[] with = {-1, 15, 14, 12, 8, -1};
        for (int node = -1; node <= 4; node++) {
            checks.due("side(" + node + "), no tree", x.side(node), without[node + 1]);
        }
        x.build();
        x.setCapacity(0, 3, 999);
        for (int node = -1; node <= 4; node++) {
            checks.due("side(" + node + ")", x.side(node), with[node + 1]);
        }
        for (int n = 2; n <= 12; n++) {
            x.reset(n);
            checks.due("side(0) of " + n + ", no tree", x.side(0), -4);
            x.build();
            checks.due("side(0) of " + n, x.side(0), Graphs.all(n));
        }
    }

    private static void loss() {
        checks.sentence("13: Returns the loss of the stored tree; NO_TREE");
        CutTreeKeeper x = Graphs.chain(999);
        checks.due("loss(), no tree", x.loss(), -4);
        x.build();
        checks.due("loss(), fresh", x.loss(), 0);
        x.setCapacity(0, 1, 998);
        checks.due("loss(), 1 less", x.loss(), 1);
        x.setCapacity(0, 1, 0);
        checks.due("loss(), all lost", x.loss(), 999);
        x.build();
        checks.due("loss(), built anew", x.loss(), 0);
        x.undo();
        checks.due("loss(), only a gain", x.loss(), 0);
        checks.due("isFresh(), only a gain", x.isFresh(), 0);
        x.reset(2);
        checks.due("loss(), removed", x.loss(), -4);
    }

    private static void lowerBound() {
        checks.sentence("14: Returns the lower bound; NO_SUCH_NODE; SAME_NODE; NO_TREE");
        CutTreeKeeper x = Graphs.chain(999);
        checks.due("lowerBound(0, 2), no tree", x.lowerBound(0, 2), -1);
        checks.due("lowerBound(2, 2), no tree", x.lowerBound(2, 2), -1);
        checks.due("lowerBound(1, 1), no tree", x.lowerBound(1, 1), -2);
        checks.due("lowerBound(0, 1), no tree", x.lowerBound(0, 1), -4);
        x.build();
        checks.due("lowerBound(1, 0)", x.lowerBound(1, 0), 999);
        checks.due("lowerBound(0, 2)", x.lowerBound(0, 2), -1);
        checks.due("lowerBound(2, 2)", x.lowerBound(2, 2), -1);
        checks.due("lowerBound(1, 1)", x.lowerBound(1, 1), -2);
        x.setCapacity(0, 1, 0);
        checks.due("lowerBound(0, 1), all lost", x.lowerBound(0, 1), 0);
    }

    private static void upperBound() {
        checks.sentence("15: Returns the upper bound; NO_SUCH_NODE; SAME_NODE; NO_TREE");
        CutTreeKeeper x = Graphs.chain(5);
        checks.due("upperBound(0, 2), no tree", x.upperBound(0, 2), -1);
        checks.due("upperBound(2, 2), no tree", x.upperBound(2, 2), -1);
        checks.due("upperBound(1, 1), no tree", x.upperBound(1, 1), -2);
        checks.due("upperBound(0, 1), no tree", x.upperBound(0, 1), -4);
        x.build();
        checks.due("upperBound(1, 0)", x.upperBound(1, 0), 5);
        checks.due("upperBound(0, 2)", x.upperBound(0, 2), -1);
        checks.due("upperBound(2, 2)", x.upperBound(2, 2), -1);
        checks.due("upperBound(1, 1)", x.upperBound(1, 1), -2);
        x.setCapacity(0, 1, 999);
        checks.due("upperBound(0, 1), a gain", x.upperBound(0, 1), 999);
        x.setCapacity(0, 1, 0);
        checks.due("upperBound(0, 1), all lost", x.upperBound(0, 1), 0);
    }

    // ---- questions that build the tree only if the bounds do not decide them

    private static void minimumCut() {
        checks.sentence("16: The tree is built if the bounds are different");
        CutTreeKeeper x = Graphs.chain(5, 9);
        checks.due("minimumCut(0, 2), no tree", x.minimumCut(0, 2), 5);
        checks.due("count(3), no tree", x.count(3), 2);
        x.setCapacity(0, 1, 4);
        checks.due("minimumCut(0, 2), bounds 4 and 4", x.minimumCut(0, 2), 4);
        checks.due("minimumCut(0, 1), bounds 4 and 4", x.minimumCut(0, 1), 4);
        checks.due("count(3), equal", x.count(3), 2);
        checks.due("label(1), equal", x.label(1), 5);
        checks.due("lowerBound(1, 2)", x.lowerBound(1, 2), 8);
        checks.due("upperBound(1, 2)", x.upperBound(1, 2), 9);
        checks.due("minimumCut(2, 1), different by 1", x.minimumCut(2, 1), 9);
        checks.due("count(3), different by 1", x.count(3), 4);
        checks.due("label(1), built anew", x.label(1), 4);
        x.setCapacity(0, 1, 5);
        checks.due("minimumCut(1, 2), bounds 9 and 9", x.minimumCut(1, 2), 9);
        checks.due("count(3), equal after a gain", x.count(3), 4);
        checks.due("minimumCut(1, 0), bounds 4 and 5", x.minimumCut(1, 0), 5);
        checks.due("count(3), different by 1", x.count(3), 6);
        // Once nothing is left, the lower bound would be below 0, but is 0 and meets the upper one.
        x.setCapacity(0, 1, 0);
        x.setCapacity(1, 2, 0);
        checks.due("minimumCut(0, 1), bounds 0 and 0", x.minimumCut(0, 1), 0);
        checks.due("minimumCut(2, 1), bounds 0 and 0", x.minimumCut(2, 1), 0);
        checks.due("count(3), equal at 0", x.count(3), 6);
        checks.sentence("16: Returns the value; NO_SUCH_NODE; SAME_NODE");
        checks.due("minimumCut(3, 3)", x.minimumCut(3, 3), -1);
        checks.due("minimumCut(2, 2)", x.minimumCut(2, 2), -2);
        checks.due("minimumCut(2, 0)", x.minimumCut(2, 0), 0);
    }

    private static void witness() {
        checks.sentence("17: The tree is built if the bounds are different");
        CutTreeKeeper x = Graphs.chain(5, 9);
        checks.due("witness(0, 2), no tree", x.witness(0, 2), 1);
        checks.due("count(3), no tree", x.count(3), 2);
        x.setCapacity(0, 1, 4);
        checks.due("witness(2, 0), bounds 4 and 4", x.witness(2, 0), 6);
        checks.due("count(3), equal", x.count(3), 2);
        checks.due("witness(2, 1), bounds 8 and 9", x.witness(2, 1), 4);
        checks.due("count(3), different by 1", x.count(3), 4);
        x.setCapacity(0, 2, 7);
        // 4 + 7 around node 0 and 9 + 7 around node 2 in the old tree, 4 + 9 around node 1 in the new one.
        checks.due("witness(1, 2), by the new tree", x.witness(1, 2), 2);
        checks.due("count(3), built for it", x.count(3), 6);
        witnessOfSeveral();
        checks.sentence("17: Returns the side of this node if s is in it, otherwise the set of all nodes that are not"
            + " in it; NO_SUCH_NODE; SAME_NODE");
        for (int n = 2; n <= 12; n++) {
            x = Graphs.of(n, new int[] {0, n - 1, 999});
            checks.due("witness(last, 0) of " + n, x.witness(n - 1, 0), 1 << n - 1);
            checks.due("witness(0, last) of " + n, x.witness(0, n - 1), Graphs.all(n - 1));
            checks.due("witness(0, " + n + ")", x.witness(0, n), -1);
            checks.due("witness(" + n + ", " + n + ")", x.witness(n, n), -1);
            checks.due("witness(last, last) of " + n, x.witness(n - 1, n - 1), -2);
        }
    }

    private static void witnessOfSeveral() {
        checks.sentence("17: the one is taken whose side has the least present weight; of several, the one that comes"
            + " first on the way in the tree from s to t");
        // All sides of the chain weigh 5: the first on the way is the one next to s.
        CutTreeKeeper x = Graphs.chain(5, 5, 5, 5, 5, 5, 5, 5, 5, 5, 5);
        for (int s = 0; s < 12; s++) {
            for (int t = 0; t < 12; t++) {
                if (s == t) continue;
                int due = s < t ? (2 << s) - 1 : 4095 & -1 << s;
                checks.due("witness(" + s + ", " + t + ") in the chain", x.witness(s, t), due);
            }
        }
        checks.due("count(3) in the chain", x.count(3), 11);
        // A path that goes up to node 0 and down again: 2 - 1 - 0 - 3 - 4, all 5.
        x = Graphs.of(5, new int[] {2, 1, 5}, new int[] {1, 0, 5}, new int[] {0, 3, 5}, new int[] {3, 4, 5});
        checks.due("witness(2, 4), up: the side of 2", x.witness(2, 4), 4);
        checks.due("witness(4, 2), up: the side of 4", x.witness(4, 2), 16);
        checks.due("witness(1, 4), up: the side of 1", x.witness(1, 4), 6);
        checks.due("witness(0, 4), down: not the side of 3", x.witness(0, 4), 7);
        checks.due("witness(3, 4), down: not the side of 4", x.witness(3, 4), 15);
        // The last one on the way alone is lightest.
        x.setCapacity(3, 4, 4);
        x.build();
        checks.due("witness(2, 4), the lightest is last", x.witness(2, 4), 15);
        checks.due("witness(4, 2), the lightest is first", x.witness(4, 2), 16);
        // Labels 5, 5, 5, 4, but present weights 3, 5, 5, 4: the loss is 2, the bounds are not equal.
        x.setCapacity(2, 1, 3);
        checks.due("upperBound(2, 4)", x.upperBound(2, 4), 3);
        checks.due("lowerBound(2, 4)", x.lowerBound(2, 4), 2);
        checks.due("witness(2, 4), by present weights", x.witness(2, 4), 4);
        checks.due("witness(4, 2), by present weights", x.witness(4, 2), 27);
        // Labels say that the side of 2 is lightest; by present weights, the side of 4 is, and the bounds meet.
        x.setCapacity(2, 1, 9);
        x.setCapacity(3, 4, 1);
        checks.due("lowerBound(2, 4)", x.lowerBound(2, 4), 0);
        x.setCapacity(3, 4, 0);
        checks.due("witness(2, 4), against the labels", x.witness(2, 4), 15);
        checks.due("isFresh(), against the labels", x.isFresh(), 0);
    }

    private static void isAtLeast() {
        checks.sentence("18: The tree is built if the limit is above the lower bound and not above the upper bound");
        // A chain 9, 5 with a loss of 2 in the first edge: the bounds of 1 and 2 are 3 and 5, the value is 5.
        int[] limits = {0, 2, 3, 4, 5, 6, 20000};
        int[] answers = {1, 1, 1, 1, 1, 0, 0};
        boolean[] builds = {false, false, false, true, true, false, false};
        for (int k = 0; k < limits.length; k++) {
            CutTreeKeeper x = Graphs.chain(9, 5);
            x.build();
            x.setCapacity(0, 1, 7);
            checks.due("isAtLeast(1, 2, " + limits[k] + ")", x.isAtLeast(1, 2, limits[k]), answers[k]);
            checks.due("count(3) behind limit " + limits[k], x.count(3), builds[k] ? 4 : 2);
        }
        // Bounds that meet at 0: no limit lies between them.
        for (int limit : new int[] {0, 1, 20000}) {
            CutTreeKeeper x = Graphs.chain(1, 1);
            x.build();
            x.setCapacity(1, 2, 0);
            checks.due("isAtLeast(0, 2, " + limit + "), bounds 0 and 0", x.isAtLeast(0, 2, limit), limit == 0 ? 1 : 0);
            checks.due("count(3), bounds 0 and 0", x.count(3), 2);
        }
        // A fresh tree is not built, whatever the limit is.
        CutTreeKeeper x = Graphs.full(12, 999);
        x.build();
        int[] near = {0, 10988, 10989, 10990, 20000};
        for (int limit : near) {
            checks.due("isAtLeast(0, 11, " + limit + "), fresh", x.isAtLeast(0, 11, limit), limit <= 10989 ? 1 : 0);
        }
        checks.due("count(3), fresh", x.count(3), 11);
        checks.sentence("18: limit: 0 to 20000");
        checks.due("isAtLeast(0, 11, -1)", x.isAtLeast(0, 11, -1), -3);
        checks.due("isAtLeast(0, 11, 0)", x.isAtLeast(0, 11, 0), 1);
        checks.due("isAtLeast(0, 11, 20000)", x.isAtLeast(0, 11, 20000), 0);
        checks.due("isAtLeast(0, 11, 20001)", x.isAtLeast(0, 11, 20001), -3);
        checks.sentence("18: Returns 1 if it is, otherwise 0; NO_SUCH_NODE; SAME_NODE; BAD_VALUE");
        checks.due("isAtLeast(11, 0, 10989)", x.isAtLeast(11, 0, 10989), 1);
        checks.due("isAtLeast(11, 0, 10990)", x.isAtLeast(11, 0, 10990), 0);
        checks.due("isAtLeast(11, 11, 20001)", x.isAtLeast(11, 11, 20001), -2);
        checks.due("isAtLeast(12, 12, 20001)", x.isAtLeast(12, 12, 20001), -1);
    }

    // ---- questions for which the tree has to be fresh

    private static void lightCut() {
        checks.sentence("19: The nodes other than 0 are ordered by their labels, then by their numbers");
        CutTreeKeeper x = Graphs.of(6, new int[] {0, 1, 5}, new int[] {0, 2, 3}, new int[] {0, 3, 5},
            new int[] {0, 4, 3}, new int[] {0, 5, 4});
        int[] order = {2, 4, 5, 1, 3, -5, -5};
        for (int k = 0; k < order.length; k++) {
            checks.due("lightCut(" + k + ")", x.lightCut(k), order[k]);
        }
        checks.sentence("19: k: place in this order, from 0");
        for (int n = 2; n <= 12; n++) {
            x = Graphs.full(n, 999);
            for (int k = 0; k < n - 1; k++) {
                checks.due("lightCut(" + k + "), all the same", x.lightCut(k), k + 1);
            }
            checks.due("lightCut(" + (n - 1) + "), all the same", x.lightCut(n - 1), -5);
        }
        checks.sentence("19: BAD_VALUE if k is negative; NONE if there are not so many (the tree is built in this case,"
            + " too)");
        for (int n = 2; n <= 12; n++) {
            x = Graphs.empty(n);
            checks.due("lightCut(-1) of " + n, x.lightCut(-1), -3);
            checks.due("count(3) behind lightCut(-1)", x.count(3), 0);
            checks.due("lightCut(" + (n - 1) + ") of " + n, x.lightCut(n - 1), -5);
            checks.due("count(3) behind NONE", x.count(3), n - 1);
            x.setCapacity(0, 1, 1);
            checks.due("lightCut(-1) of " + n + ", not fresh", x.lightCut(-1), -3);
            checks.due("isFresh() behind lightCut(-1)", x.isFresh(), 0);
            checks.due("lightCut(HIGHEST) of " + n, x.lightCut(HIGHEST), -5);
            checks.due("isFresh() behind NONE", x.isFresh(), 1);
            checks.due("count(3) behind NONE again", x.count(3), 2 * (n - 1));
            checks.due("lightCut(" + (n - 2) + "), the last place", x.lightCut(n - 2), 1);
        }
    }

    private static void classCount() {
        checks.sentence("20: Two nodes belong to the same class if they are the same or their minimum cut value is at"
            + " least the limit");
        CutTreeKeeper x = Graphs.of(6, new int[] {0, 1, 5}, new int[] {1, 2, 5}, new int[] {3, 4, 7});
        int[] limits = {0, 1, 5, 6, 7, 8, 20000};
        int[] counts = {1, 3, 3, 5, 5, 6, 6};
        for (int k = 0; k < limits.length; k++) {
            checks.due("classCount(" + limits[k] + ")", x.classCount(limits[k]), counts[k]);
        }
        checks.sentence("20: Returns the number of classes; BAD_VALUE");
        for (int n = 2; n <= 12; n++) {
            x = Graphs.full(n, 999);
            checks.due("classCount(-1) of " + n, x.classCount(-1), -3);
            checks.due("classCount(20001) of " + n, x.classCount(20001), -3);
            checks.due("count(3) of " + n, x.count(3), 0);
            checks.due("classCount(0) of " + n, x.classCount(0), 1);
            checks.due("classCount at the value of " + n, x.classCount(999 * (n - 1)), 1);
            checks.due("classCount above the value of " + n, x.classCount(999 * (n - 1) + 1), n);
            checks.due("classCount(20000) of " + n, x.classCount(20000), n);
            x.reset(n);
            checks.due("classCount(0) of " + n + " without edges", x.classCount(0), 1);
            checks.due("classCount(1) of " + n + " without edges", x.classCount(1), n);
        }
    }

    private static void classOf() {
        checks.sentence("21: Returns the class of the node (see classCount), as a set; NO_SUCH_NODE; BAD_VALUE");
        CutTreeKeeper x = Graphs.of(6, new int[] {0, 1, 5}, new int[] {1, 2, 5}, new int[] {3, 4, 7});
        int[] limits = {0, 1, 5, 6, 7, 8, 20000};
        int[][] classes = {{63, 63, 63, 63, 63, 63}, {7, 7, 7, 24, 24, 32}, {7, 7, 7, 24, 24, 32},
            {1, 2, 4, 24, 24, 32}, {1, 2, 4, 24, 24, 32}, {1, 2, 4, 8, 16, 32}, {1, 2, 4, 8, 16, 32}};
        for (int k = 0; k < limits.length; k++) {
            for (int node = 0; node < 6; node++) {
                checks.due("classOf(" + node + ", " + limits[k] + ")", x.classOf(node, limits[k]), classes[k][node]);
            }
        }
        x = Graphs.full(12, 999);
        checks.due("classOf(12, -1)", x.classOf(12, -1), -1);
        checks.due("classOf(-1, 20001)", x.classOf(-1, 20001), -1);
        checks.due("classOf(11, -1)", x.classOf(11, -1), -3);
        checks.due("classOf(0, 20001)", x.classOf(0, 20001), -3);
        checks.due("count(3) behind refused calls", x.count(3), 0);
        checks.due("classOf(11, 10989)", x.classOf(11, 10989), 4095);
        checks.due("classOf(11, 10990)", x.classOf(11, 10990), 2048);
        checks.due("count(3)", x.count(3), 11);
    }

    private static void partner() {
        checks.sentence("22: Returns another node for which the minimum cut value of both is greatest, the lowest one"
            + " of several; NO_SUCH_NODE");
        for (int n = 2; n <= 12; n++) {
            CutTreeKeeper x = Graphs.empty(n);
            checks.due("partner(" + n + ")", x.partner(n), -1);
            checks.due("partner(-1)", x.partner(-1), -1);
            checks.due("count(3) behind refused calls", x.count(3), 0);
            for (int node = 0; node < n; node++) {
                checks.due("partner(" + node + ") of " + n + ", all are 0", x.partner(node), node == 0 ? 1 : 0);
            }
            Graphs.setAll(x, n, 999);
            for (int node = 0; node < n; node++) {
                checks.due("partner(" + node + ") of " + n + ", all the same", x.partner(node), node == 0 ? 1 : 0);
            }
        }
        // 4 and 5 are tied most to node 3, by 7 each; node 2 is next, by 6.
        CutTreeKeeper x = Graphs.of(6, new int[] {3, 5, 7}, new int[] {3, 4, 7}, new int[] {2, 3, 6},
            new int[] {0, 1, 1});
        int[] partners = {1, 0, 3, 4, 3, 3};
        for (int node = 0; node < 6; node++) {
            checks.due("partner(" + node + ")", x.partner(node), partners[node]);
        }
        // Greatest by the minimum cut value, not by the edge: 0 - 1 weighs 4, 0 - 2 - 1 and 0 - 3 - 1 add 6.
        x = Graphs.of(4, new int[] {0, 1, 4}, new int[] {0, 2, 5}, new int[] {2, 1, 3}, new int[] {0, 3, 3},
            new int[] {3, 1, 3});
        checks.due("partner(0)", x.partner(0), 1);
    }

    private static void leastAcross() {
        checks.sentence("23: Finds the least minimum cut value of all pairs of nodes of which one is in a set and the"
            + " other one is not");
        CutTreeKeeper x = Graphs.chain(5, 3, 4);
        for (int set = 1; set < 15; set++) {
            checks.due("leastAcross(" + set + ")", x.leastAcross(set), 3);
        }
        x.setCapacity(1, 2, 0);
        checks.due("leastAcross(1), 0 for the farthest pair", x.leastAcross(1), 0);
        checks.due("leastAcross(3), apart", x.leastAcross(3), 0);
        checks.sentence("23: Returns this value; BAD_VALUE if set is not a cut");
        for (int n = 2; n <= 12; n++) {
            x = Graphs.full(n, 999);
            checks.due("leastAcross(0) of " + n, x.leastAcross(0), -3);
            checks.due("leastAcross of all of " + n, x.leastAcross(Graphs.all(n)), -3);
            checks.due("leastAcross of one too many of " + n, x.leastAcross(1 << n), -3);
            checks.due("leastAcross(-1) of " + n, x.leastAcross(-1), -3);
            checks.due("count(3) behind refused calls", x.count(3), 0);
            checks.due("leastAcross(1) of " + n, x.leastAcross(1), 999 * (n - 1));
            checks.due("leastAcross of all but node 0 of " + n, x.leastAcross(Graphs.all(n) - 1), 999 * (n - 1));
            checks.due("leastAcross of the last of " + n, x.leastAcross(1 << n - 1), 999 * (n - 1));
        }
    }
}
