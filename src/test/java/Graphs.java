/** Objects with graphs that several tests use. */
final class Graphs {
    private Graphs() {}

    static CutTreeKeeper empty(int nodes) {
        CutTreeKeeper x = new CutTreeKeeper();
        x.reset(nodes);
        return x;
    }

    /** Edges as rows of two nodes and a capacity. */
    static CutTreeKeeper of(int nodes, int[]... edges) {
        CutTreeKeeper x = empty(nodes);
        for (int[] edge : edges) {
            x.setCapacity(edge[0], edge[1], edge[2]);
        }
        return x;
    }

    /** The chain 0 - 1 - 2 and so on; its tree is the chain itself. */
    static CutTreeKeeper chain(int... capacities) {
        CutTreeKeeper x = empty(capacities.length + 1);
        for (int k = 0; k < capacities.length; k++) {
            x.setCapacity(k, k + 1, capacities[k]);
        }
        return x;
    }

    static CutTreeKeeper full(int nodes, int capacity) {
        CutTreeKeeper x = empty(nodes);
        setAll(x, nodes, capacity);
        return x;
    }

    static void setAll(CutTreeKeeper x, int nodes, int capacity) {
        for (int u = 0; u < nodes; u++) {
            for (int v = u + 1; v < nodes; v++) {
                x.setCapacity(u, v, capacity);
            }
        }
    }

    static int all(int nodes) {
        return (1 << nodes) - 1;
    }
}
