import java.util.ArrayList;
import java.util.List;

/**
 * What the document says, by enumeration: minimum cuts come from looking at
 * every set of nodes, not from flows, and questions about them are answered
 * from their definition, not from the tree.
 */
final class PlainModel {
    private record Change(int u, int v, int before) {}

    private int n = 4;
    private int[][] capacity = new int[12][12];
    private final List<Change> changes = new ArrayList<>();
    private int flows = 0;
    private boolean stored = false;
    private int[][] then = new int[12][12];
    private final int[] parent = new int[12];
    private final int[] label = new int[12];
    // Weights of all sets for the present capacities; null after a change.
    private int[] weights = null;

    int reset(int nodes) {
        if (nodes < 2 || nodes > 12) return -3;
        int before = n;
        n = nodes;
        capacity = new int[12][12];
        changes.clear();
        flows = 0;
        stored = false;
        weights = null;
        return before;
    }

    int setCapacity(int u, int v, int value) {
        if (!node(u) || !node(v)) return -1;
        if (u == v) return -2;
        if (value < 0 || value > 999) return -3;
        int before = capacity[u][v];
        changes.add(new Change(u, v, before));
        if (changes.size() > 40) changes.remove(0);
        put(u, v, value);
        return before;
    }

    int undo() {
        if (changes.isEmpty()) return -5;
        Change last = changes.remove(changes.size() - 1);
        put(last.u(), last.v(), last.before());
        return changes.size();
    }

    int capacity(int u, int v) {
        if (!node(u) || !node(v)) return -1;
        return u == v ? -2 : capacity[u][v];
    }

    int count(int what) {
        if (what == 0) return n;
        if (what == 1) {
            int found = 0;
            for (int u = 0; u < n; u++) for (int v = 0; v < u; v++) if (capacity[u][v] != 0) found++;
            return found;
        }
        if (what == 2) return changes.size();
        return what == 3 ? flows : -3;
    }

    int cutWeight(int set) {
        return isCut(set) ? weight(set) : -3;
    }

    int build() {
        if (fresh()) return 0;
        construct();
        return n - 1;
    }

    int isFresh() {
        return fresh() ? 1 : 0;
    }

    int parent(int x) {
        if (!node(x)) return -1;
        if (!stored) return -4;
        return x == 0 ? -5 : parent[x];
    }

    int label(int x) {
        if (!node(x)) return -1;
        if (!stored) return -4;
        return x == 0 ? -5 : label[x];
    }

    int side(int x) {
        if (!node(x)) return -1;
        return stored ? sideOf(x) : -4;
    }

    int loss() {
        if (!stored) return -4;
        int sum = 0;
        for (int u = 0; u < n; u++)
            for (int v = 0; v < u; v++)
                if (then[u][v] > capacity[u][v]) sum += then[u][v] - capacity[u][v];
        return sum;
    }

    int lowerBound(int s, int t) {
        if (!node(s) || !node(t)) return -1;
        if (s == t) return -2;
        if (!stored) return -4;
        int least = 1 << 30;
        for (int x : way(s, t)) least = Math.min(least, label[x]);
        return least - loss() < 0 ? 0 : least - loss();
    }

    int upperBound(int s, int t) {
        if (!node(s) || !node(t)) return -1;
        if (s == t) return -2;
        if (!stored) return -4;
        int least = 1 << 30;
        for (int x : way(s, t)) least = Math.min(least, weight(sideOf(x)));
        return least;
    }

    int minimumCut(int s, int t) {
        if (!node(s) || !node(t)) return -1;
        if (s == t) return -2;
        if (!stored || lowerBound(s, t) != upperBound(s, t)) construct();
        return value(s, t);
    }

    int witness(int s, int t) {
        if (!node(s) || !node(t)) return -1;
        if (s == t) return -2;
        if (!stored || lowerBound(s, t) != upperBound(s, t)) construct();
        int least = upperBound(s, t);
        for (int x : way(s, t)) {
            int side = sideOf(x);
            if (weight(side) == least) return (side >> s & 1) == 1 ? side : (1 << n) - 1 - side;
        }
        return -99;
    }

    int isAtLeast(int s, int t, int limit) {
        if (!node(s) || !node(t)) return -1;
        if (s == t) return -2;
        if (limit < 0 || limit > 20000) return -3;
        if (!stored || limit > lowerBound(s, t) && limit <= upperBound(s, t)) construct();
        return value(s, t) >= limit ? 1 : 0;
    }

    int lightCut(int k) {
        if (k < 0) return -3;
        build();
        List<Integer> order = new ArrayList<>();
        for (int x = 1; x < n; x++) order.add(x);
        order.sort((a, b) -> label[a] != label[b] ? Integer.compare(label[a], label[b]) : Integer.compare(a, b));
        return k < order.size() ? order.get(k) : -5;
    }

    int classCount(int limit) {
        if (limit < 0 || limit > 20000) return -3;
        build();
        int found = 0;
        for (int x = 0; x < n; x++) {
            // A class is counted at its lowest node.
            if (Integer.numberOfTrailingZeros(classSet(x, limit)) == x) found++;
        }
        return found;
    }

    int classOf(int x, int limit) {
        if (!node(x)) return -1;
        if (limit < 0 || limit > 20000) return -3;
        build();
        return classSet(x, limit);
    }

    int partner(int x) {
        if (!node(x)) return -1;
        build();
        int best = -99;
        int most = -1;
        for (int y = 0; y < n; y++) {
            if (y != x && value(x, y) > most) {
                most = value(x, y);
                best = y;
            }
        }
        return best;
    }

    int leastAcross(int set) {
        if (!isCut(set)) return -3;
        build();
        int least = 1 << 30;
        for (int u = 0; u < n; u++)
            for (int v = 0; v < n; v++)
                if ((set >> u & 1) == 1 && (set >> v & 1) == 0) least = Math.min(least, value(u, v));
        return least;
    }

    /** Whether what the document says of a finished tree is so for the stored one, if it is fresh. */
    boolean treeIsSound() {
        if (!fresh()) return true;
        for (int x = 1; x < n; x++) {
            if (weight(sideOf(x)) != label[x] || value(x, parent[x]) != label[x]) return false;
        }
        return true;
    }

    /** Whether the minimum cut values lie between the bounds. */
    boolean boundsAreSound() {
        if (!stored) return true;
        for (int s = 0; s < n; s++) {
            for (int t = 0; t < n; t++) {
                if (s == t) continue;
                int value = value(s, t);
                if (lowerBound(s, t) > value || value > upperBound(s, t)) return false;
                if (fresh() && lowerBound(s, t) != upperBound(s, t)) return false;
            }
        }
        return true;
    }

    private boolean node(int x) {
        return 0 <= x && x < n;
    }

    private boolean isCut(int set) {
        return set > 0 && set < (1 << n) - 1;
    }

    private void put(int u, int v, int value) {
        capacity[u][v] = value;
        capacity[v][u] = value;
        weights = null;
    }

    private boolean fresh() {
        if (!stored) return false;
        for (int u = 0; u < n; u++) for (int v = 0; v < n; v++) if (then[u][v] != capacity[u][v]) return false;
        return true;
    }

    private int weight(int set) {
        if (weights == null) {
            weights = new int[1 << n];
            for (int each = 1; each < 1 << n; each++) {
                int x = Integer.numberOfTrailingZeros(each);
                int rest = each & each - 1;
                int sum = weights[rest];
                for (int y = 0; y < n; y++) {
                    if (y != x) sum += (rest >> y & 1) == 1 ? -capacity[x][y] : capacity[x][y];
                }
                weights[each] = sum;
            }
        }
        return weights[set];
    }

    private int value(int s, int t) {
        int least = 1 << 30;
        for (int set = 1; set < 1 << n; set++) {
            if ((set >> s & 1) == 1 && (set >> t & 1) == 0) least = Math.min(least, weight(set));
        }
        return least;
    }

    private int nearCut(int s, int t) {
        int best = 0;
        for (int set = 1; set < 1 << n; set++) {
            if ((set >> s & 1) == 0 || (set >> t & 1) == 1) continue;
            if (best == 0 || weight(set) < weight(best)
                    || weight(set) == weight(best) && Integer.bitCount(set) < Integer.bitCount(best)) {
                best = set;
            }
        }
        return best;
    }

    private void construct() {
        for (int x = 0; x < n; x++) {
            parent[x] = x == 0 ? -1 : 0;
            label[x] = -77;
        }
        for (int s = 1; s < n; s++) {
            int t = parent[s];
            int near = nearCut(s, t);
            int f = weight(near);
            for (int x = 0; x < n; x++) {
                if (x != s && (near >> x & 1) == 1 && parent[x] == t) parent[x] = s;
            }
            if (parent[t] != -1 && (near >> parent[t] & 1) == 1) {
                parent[s] = parent[t];
                label[s] = label[t];
                parent[t] = s;
                label[t] = f;
            } else {
                label[s] = f;
            }
        }
        for (int u = 0; u < n; u++) then[u] = capacity[u].clone();
        stored = true;
        flows += n - 1;
    }

    private boolean isBelowOrSame(int x, int top) {
        while (x != top && x != 0) x = parent[x];
        return x == top;
    }

    private int sideOf(int x) {
        int set = 0;
        for (int y = 0; y < n; y++) if (isBelowOrSame(y, x)) set |= 1 << y;
        return set;
    }

    /** The nodes on the path, in the order of the way from s to t. */
    private List<Integer> way(int s, int t) {
        List<Integer> found = new ArrayList<>();
        int top = s;
        while (!isBelowOrSame(t, top)) {
            found.add(top);
            top = parent[top];
        }
        int turn = found.size();
        for (int x = t; x != top; x = parent[x]) found.add(turn, x);
        return found;
    }

    private int classSet(int x, int limit) {
        int set = 1 << x;
        for (int y = 0; y < n; y++) if (y != x && value(x, y) >= limit) set |= 1 << y;
        return set;
    }
}
