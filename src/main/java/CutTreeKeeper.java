import java.util.Arrays;

/**
 * A keeper of minimum cuts in an undirected graph whose capacities change. It
 * stores a cut tree and goes on using it after changes, as long as the bounds
 * that follow from it decide the question.
 *
 * <p>Sets of nodes are bit sets: bit k stands for node k.
 */
public final class CutTreeKeeper {
    public static final int NO_SUCH_NODE = -1;
    public static final int SAME_NODE = -2;
    public static final int BAD_VALUE = -3;
    public static final int NO_TREE = -4;
    public static final int NONE = -5;

    private static final int NO_ERROR = 0;
    private static final int FIRST_NODES = 4;
    private static final int FEWEST_NODES = 2;
    private static final int MOST_NODES = 12;
    private static final int MOST_CAPACITY = 999;
    private static final int MOST_LIMIT = 20000;
    private static final int MOST_CHANGES = 40;
    private static final int ABOVE_ALL_WEIGHTS = MOST_NODES * MOST_NODES * MOST_CAPACITY;

    private final Graph graph;
    private final ChangeList changes;
    private final CutTree tree;
    private int flows;

    public CutTreeKeeper() {
        graph = new Graph(FIRST_NODES);
        changes = new ChangeList();
        tree = new CutTree(graph);
        flows = 0;
    }

    // ---- the graph

    public int reset(int nodes) {
        if (nodes < FEWEST_NODES || nodes > MOST_NODES) {
            return BAD_VALUE;
        }
        int before = graph.nodes;
        graph.startWith(nodes);
        changes.forgetAll();
        tree.stored = false;
        flows = 0;
        return before;
    }

    public int setCapacity(int u, int v, int capacity) {
        int error = pairError(u, v);
        if (error != NO_ERROR) {
            return error;
        }
        if (capacity < 0 || capacity > MOST_CAPACITY) {
            return BAD_VALUE;
        }
        int before = graph.between(u, v);
        changes.remember(u, v, before);
        graph.put(u, v, capacity);
        return before;
    }

    public int undo() {
        if (changes.size == 0) {
            return NONE;
        }
        changes.takeBackLatest(graph);
        return changes.size;
    }

    public int capacity(int u, int v) {
        int error = pairError(u, v);
        return error != NO_ERROR ? error : graph.between(u, v);
    }

    public int count(int what) {
        switch (what) {
            case 0:
                return graph.nodes;
            case 1:
                return graph.edges();
            case 2:
                return changes.size;
            case 3:
                return flows;
            default:
                return BAD_VALUE;
        }
    }

    public int cutWeight(int set) {
        return graph.isCut(set) ? graph.weightOf(set) : BAD_VALUE;
    }

    // ---- the stored tree

    public int build() {
        int before = flows;
        freshen();
        return flows - before;
    }

    public int isFresh() {
        return tree.fitsGraph() ? 1 : 0;
    }

    public int parent(int node) {
        int error = storedNodeError(node);
        return error != NO_ERROR ? error : tree.parents[node];
    }

    public int label(int node) {
        int error = storedNodeError(node);
        return error != NO_ERROR ? error : tree.labels[node];
    }

    public int side(int node) {
        int error = storedNodeError(node);
        return error != NO_ERROR ? error : tree.sides[node];
    }

    public int loss() {
        return tree.stored ? tree.lostCapacity() : NO_TREE;
    }

    public int lowerBound(int s, int t) {
        int error = storedPairError(s, t);
        return error != NO_ERROR ? error : tree.atLeast(s, t);
    }

    public int upperBound(int s, int t) {
        int error = storedPairError(s, t);
        return error != NO_ERROR ? error : tree.atMost(s, t);
    }

    // ---- questions that build the tree only if the bounds do not decide them

    public int minimumCut(int s, int t) {
        int error = pairError(s, t);
        if (error != NO_ERROR) {
            return error;
        }
        makeBoundsMeet(s, t);
        return tree.atMost(s, t);
    }

    public int witness(int s, int t) {
        int error = pairError(s, t);
        if (error != NO_ERROR) {
            return error;
        }
        makeBoundsMeet(s, t);
        return tree.lightestCutOnWay(s, t);
    }

    public int isAtLeast(int s, int t, int limit) {
        int error = pairError(s, t);
        if (error != NO_ERROR) {
            return error;
        }
        if (!isLimit(limit)) {
            return BAD_VALUE;
        }
        if (!tree.stored || limit > tree.atLeast(s, t) && limit <= tree.atMost(s, t)) {
            buildAnew();
        }
        return limit <= tree.atLeast(s, t) ? 1 : 0;
    }

    // ---- questions for which the tree has to be fresh

    public int lightCut(int k) {
        if (k < 0) {
            return BAD_VALUE;
        }
        freshen();
        return tree.nodeAtPlace(k);
    }

    public int classCount(int limit) {
        if (!isLimit(limit)) {
            return BAD_VALUE;
        }
        freshen();
        // Each label below the limit parts one class of the tree in two.
        return 1 + tree.labelsBelow(limit);
    }

    public int classOf(int node, int limit) {
        if (!graph.hasNode(node)) {
            return NO_SUCH_NODE;
        }
        if (!isLimit(limit)) {
            return BAD_VALUE;
        }
        freshen();
        return tree.nodesTiedTo(node, limit);
    }

    public int partner(int node) {
        if (!graph.hasNode(node)) {
            return NO_SUCH_NODE;
        }
        freshen();
        return tree.nodeTiedMostTo(node);
    }

    public int leastAcross(int set) {
        if (!graph.isCut(set)) {
            return BAD_VALUE;
        }
        freshen();
        return tree.leastLabelAcross(set);
    }

    // ---- the order of the checks

    private int pairError(int u, int v) {
        if (!graph.hasNode(u) || !graph.hasNode(v)) {
            return NO_SUCH_NODE;
        }
        return u == v ? SAME_NODE : NO_ERROR;
    }

    private int storedPairError(int s, int t) {
        int error = pairError(s, t);
        if (error != NO_ERROR) {
            return error;
        }
        return tree.stored ? NO_ERROR : NO_TREE;
    }

    private int storedNodeError(int node) {
        if (!graph.hasNode(node)) {
            return NO_SUCH_NODE;
        }
        return tree.stored ? NO_ERROR : NO_TREE;
    }

    private static boolean isLimit(int limit) {
        return limit >= 0 && limit <= MOST_LIMIT;
    }

    // ---- lazy building

    private void freshen() {
        if (!tree.fitsGraph()) {
            buildAnew();
        }
    }

    private void makeBoundsMeet(int s, int t) {
        if (!tree.stored || tree.atLeast(s, t) != tree.atMost(s, t)) {
            buildAnew();
        }
    }

    private void buildAnew() {
        tree.growAnew();
        flows += graph.nodes - 1;
    }

    // ---- sets of nodes

    private static int only(int node) {
        return 1 << node;
    }

    private static boolean holds(int set, int node) {
        return (set >> node & 1) != 0;
    }

    private static boolean separates(int set, int u, int v) {
        return holds(set, u) != holds(set, v);
    }

    /** The nodes and the present capacities. */
    private static final class Graph {
        final int[][] capacities = new int[MOST_NODES][MOST_NODES];
        int nodes;

        Graph(int nodes) {
            this.nodes = nodes;
        }

        void startWith(int newNodes) {
            for (int u = 0; u < MOST_NODES; u++) {
                Arrays.fill(capacities[u], 0);
            }
            nodes = newNodes;
        }

        boolean hasNode(int node) {
            return node >= 0 && node < nodes;
        }

        int between(int u, int v) {
            return capacities[u][v];
        }

        void put(int u, int v, int newCapacity) {
            if (hasNode(u) && hasNode(v)) {
                capacities[u][v] = newCapacity;
                capacities[v][u] = newCapacity;
            }
        }

        int edges() {
            int found = 0;
            for (int u = 0; u < nodes; u++) {
                for (int v = u + 1; v < nodes; v++) {
                    if (capacities[u][v] > 0) {
                        found++;
                    }
                }
            }
            return found;
        }

        int allNodes() {
            return (1 << nodes) - 1;
        }

        boolean isCut(int set) {
            return set > 0 && set < allNodes();
        }

        int weightOf(int set) {
            int weight = 0;
            for (int u = 0; u < nodes; u++) {
                for (int v = u + 1; v < nodes; v++) {
                    if (separates(set, u, v)) {
                        weight += capacities[u][v];
                    }
                }
            }
            return weight;
        }
    }

    /** The latest changes, in rows that are used round and round. */
    private static final class ChangeList {
        private final int[] firsts = new int[MOST_CHANGES];
        private final int[] seconds = new int[MOST_CHANGES];
        private final int[] befores = new int[MOST_CHANGES];
        private int next = 0;
        int size = 0;

        void forgetAll() {
            next = 0;
            size = 0;
        }

        void remember(int u, int v, int before) {
            int place = isPlace(next) ? next : 0;
            firsts[place] = u;
            seconds[place] = v;
            befores[place] = before;
            next = place + 1;
            size = Math.min(size + 1, MOST_CHANGES);
        }

        void takeBackLatest(Graph graph) {
            int place = isPlace(next - 1) ? next - 1 : MOST_CHANGES - 1;
            graph.put(firsts[place], seconds[place], befores[place]);
            next = place;
            size--;
        }

        private static boolean isPlace(int place) {
            return place >= 0 && place < MOST_CHANGES;
        }
    }

    /** The cut tree, with the capacities for which it was built. */
    private static final class CutTree {
        private final Graph graph;
        private final NearCutFinder finder = new NearCutFinder();
        private final int[][] capacitiesThen = new int[MOST_NODES][MOST_NODES];
        final int[] parents = new int[MOST_NODES];
        final int[] labels = new int[MOST_NODES];
        final int[] sides = new int[MOST_NODES];
        boolean stored = false;

        CutTree(Graph graph) {
            this.graph = graph;
        }

        void growAnew() {
            Arrays.fill(parents, 0);
            Arrays.fill(labels, 0);
            parents[0] = NONE;
            labels[0] = NONE;
            for (int s = 1; s < graph.nodes; s++) {
                int nearCut = finder.nearCut(graph, s, parents[s]);
                splitOff(s, nearCut, graph.weightOf(nearCut));
            }
            collectSides();
            for (int u = 0; u < graph.nodes; u++) {
                System.arraycopy(graph.capacities[u], 0, capacitiesThen[u], 0, MOST_NODES);
            }
            stored = true;
        }

        private void splitOff(int s, int nearCut, int weight) {
            int t = parents[s];
            for (int node = 1; node < graph.nodes; node++) {
                if (node != s && holds(nearCut, node) && parents[node] == t) {
                    parents[node] = s;
                }
            }
            if (hasParent(t) && holds(nearCut, parents[t])) {
                parents[s] = parents[t];
                labels[s] = labels[t];
                parents[t] = s;
                labels[t] = weight;
            } else {
                labels[s] = weight;
            }
        }

        private boolean hasParent(int node) {
            return node > 0 && node < graph.nodes;
        }

        private void collectSides() {
            Arrays.fill(sides, 0);
            sides[0] = graph.allNodes();
            for (int node = 1; node < graph.nodes; node++) {
                int above = node;
                for (int steps = 0; steps < graph.nodes && hasParent(above); steps++) {
                    sides[above] |= only(node);
                    above = parents[above];
                }
            }
        }

        boolean fitsGraph() {
            if (!stored) {
                return false;
            }
            for (int u = 0; u < graph.nodes; u++) {
                for (int v = u + 1; v < graph.nodes; v++) {
                    if (capacitiesThen[u][v] != graph.capacities[u][v]) {
                        return false;
                    }
                }
            }
            return true;
        }

        int lostCapacity() {
            int lost = 0;
            for (int u = 0; u < graph.nodes; u++) {
                for (int v = u + 1; v < graph.nodes; v++) {
                    lost += Math.max(0, capacitiesThen[u][v] - graph.capacities[u][v]);
                }
            }
            return lost;
        }

        int atLeast(int s, int t) {
            return Math.max(0, leastLabel(s, t) - lostCapacity());
        }

        int atMost(int s, int t) {
            return graph.weightOf(sides[lightestOnWay(s, t)]);
        }

        /** The least label on the path; the minimum cut value if the tree is fresh. */
        private int leastLabel(int s, int t) {
            int least = ABOVE_ALL_WEIGHTS;
            for (int node = 1; node < graph.nodes; node++) {
                if (separates(sides[node], s, t)) {
                    least = Math.min(least, labels[node]);
                }
            }
            return least;
        }

        int lightestCutOnWay(int s, int t) {
            int cut = sides[lightestOnWay(s, t)];
            return holds(cut, s) ? cut : graph.allNodes() & ~cut;
        }

        private int lightestOnWay(int s, int t) {
            int best = 0;
            int bestWeight = ABOVE_ALL_WEIGHTS;
            for (int node = 1; node < graph.nodes; node++) {
                if (separates(sides[node], s, t)) {
                    int weight = graph.weightOf(sides[node]);
                    if (weight < bestWeight
                            || weight == bestWeight && placeOnWay(node, s) < placeOnWay(best, s)) {
                        best = node;
                        bestWeight = weight;
                    }
                }
            }
            return best;
        }

        /**
         * A number that grows on the way from s: the sides grow as long as the
         * way leads up, and shrink when it leads down.
         */
        private int placeOnWay(int node, int s) {
            int size = Integer.bitCount(sides[node]);
            return holds(sides[node], s) ? size : 2 * MOST_NODES - size;
        }

        int nodeAtPlace(int k) {
            for (int node = 1; node < graph.nodes; node++) {
                if (lighterThan(node) == k) {
                    return node;
                }
            }
            return NONE;
        }

        private int lighterThan(int node) {
            int lighter = 0;
            for (int other = 1; other < graph.nodes; other++) {
                if (labels[other] < labels[node] || labels[other] == labels[node] && other < node) {
                    lighter++;
                }
            }
            return lighter;
        }

        int labelsBelow(int limit) {
            int below = 0;
            for (int node = 1; node < graph.nodes; node++) {
                if (labels[node] < limit) {
                    below++;
                }
            }
            return below;
        }

        int nodesTiedTo(int node, int limit) {
            int tied = only(node);
            for (int other = 0; other < graph.nodes; other++) {
                if (other != node && leastLabel(node, other) >= limit) {
                    tied |= only(other);
                }
            }
            return tied;
        }

        int nodeTiedMostTo(int node) {
            int best = NONE;
            int bestValue = -1;
            for (int other = 0; other < graph.nodes; other++) {
                if (other != node && leastLabel(node, other) > bestValue) {
                    best = other;
                    bestValue = leastLabel(node, other);
                }
            }
            return best;
        }

        int leastLabelAcross(int set) {
            int least = ABOVE_ALL_WEIGHTS;
            for (int u = 0; u < graph.nodes; u++) {
                for (int v = u + 1; v < graph.nodes; v++) {
                    if (separates(set, u, v)) {
                        least = Math.min(least, leastLabel(u, v));
                    }
                }
            }
            return least;
        }
    }

    /** One flow: it finds the near cut of a node from another one. */
    private static final class NearCutFinder {
        // Each path carries at least 1, and no more than this leaves a node.
        private static final int MOST_PATHS = (MOST_NODES - 1) * MOST_CAPACITY;

        private final int[][] rest = new int[MOST_NODES][MOST_NODES];
        private final int[] cameFrom = new int[MOST_NODES];
        private int nodes;
        private int reached;

        int nearCut(Graph graph, int s, int t) {
            nodes = graph.nodes;
            for (int u = 0; u < nodes; u++) {
                System.arraycopy(graph.capacities[u], 0, rest[u], 0, MOST_NODES);
            }
            for (int path = 0; path <= MOST_PATHS && findPath(s, t); path++) {
                sendAlong(s, t, narrowest(s, t));
            }
            // What the last, vain search has reached is the smallest minimum cut around s.
            return reached;
        }

        /** A search in breadth, since shortest paths keep their number low. */
        private boolean findPath(int s, int t) {
            reached = only(s);
            int latest = reached;
            for (int length = 1; length < nodes && !holds(reached, t); length++) {
                int before = reached;
                for (int u = 0; u < nodes; u++) {
                    if (!holds(latest, u)) {
                        continue;
                    }
                    for (int v = 0; v < nodes; v++) {
                        if (rest[u][v] > 0 && !holds(reached, v)) {
                            reached |= only(v);
                            cameFrom[v] = u;
                        }
                    }
                }
                latest = reached & ~before;
            }
            return holds(reached, t);
        }

        private int narrowest(int s, int t) {
            int amount = ABOVE_ALL_WEIGHTS;
            int v = t;
            for (int steps = 0; steps < nodes && isBehind(v, s); steps++) {
                int u = cameFrom[v];
                amount = Math.min(amount, rest[u][v]);
                v = u;
            }
            return amount;
        }

        private void sendAlong(int s, int t, int amount) {
            int v = t;
            for (int steps = 0; steps < nodes && isBehind(v, s); steps++) {
                int u = cameFrom[v];
                rest[u][v] -= amount;
                rest[v][u] += amount;
                v = u;
            }
        }

        /** Whether the node is not s itself, and the search came to it from a node. */
        private boolean isBehind(int node, int s) {
            if (node == s || node < 0 || node >= nodes) {
                return false;
            }
            return cameFrom[node] >= 0 && cameFrom[node] < nodes;
        }
    }
}
