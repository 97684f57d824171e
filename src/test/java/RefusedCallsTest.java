import java.util.ArrayList;
import java.util.List;
import java.util.function.Supplier;
import java.util.function.ToIntFunction;

/**
 * "Where several errors can apply, the order of the @return line is the order
 * of the checks. NONE is returned only if no error applies. A call that reports
 * an error changes nothing.": each refused call, in each kind of state, on an
 * object of its own, which must answer like its twin afterwards.
 */
public final class RefusedCallsTest {
    private static final int LOWEST = Integer.MIN_VALUE;
    private static final int HIGHEST = Integer.MAX_VALUE;
    private static final Checks checks = new Checks();

    private record State(String name, int nodes, boolean stored, boolean changed, Supplier<CutTreeKeeper> maker) {}

    private record Call(String name, int due, ToIntFunction<CutTreeKeeper> ask) {}

    private final State state;
    private final int n;
    private final List<Call> calls = new ArrayList<>();

    private RefusedCallsTest(State state) {
        this.state = state;
        n = state.nodes();
    }

    public static void main(String[] args) {
        for (State state : states()) {
            RefusedCallsTest test = new RefusedCallsTest(state);
            test.collect();
            test.askAll();
        }
        checks.end();
    }

    private static List<State> states() {
        return List.of(
            new State("a new object", 4, false, false, CutTreeKeeper::new),
            new State("two nodes", 2, false, false, () -> Graphs.empty(2)),
            new State("twelve nodes", 12, false, false, () -> Graphs.empty(12)),
            new State("a chain without a tree", 4, false, true, () -> Graphs.chain(10, 4, 7)),
            new State("a fresh tree", 4, true, true, () -> built(Graphs.chain(10, 4, 7))),
            new State("a stale tree", 4, true, true, RefusedCallsTest::stale),
            new State("a tree fresh again", 4, true, true, RefusedCallsTest::freshAgain),
            new State("a full list", 4, true, true, RefusedCallsTest::fullList),
            new State("an emptied list", 4, true, false, RefusedCallsTest::emptiedList),
            new State("two nodes with a tree", 2, true, true, () -> built(Graphs.chain(999))),
            new State("the fullest graph", 12, false, true, () -> Graphs.full(12, 999)),
            new State("the fullest graph with a tree", 12, true, true, () -> built(Graphs.full(12, 999))),
            new State("a reset to fewer nodes", 3, false, false, RefusedCallsTest::fewerNodes));
    }

    private static CutTreeKeeper built(CutTreeKeeper x) {
        x.build();
        return x;
    }

    private static CutTreeKeeper stale() {
        CutTreeKeeper x = built(Graphs.chain(10, 4, 7));
        x.setCapacity(0, 1, 6);
        x.setCapacity(0, 3, 2);
        return x;
    }

    private static CutTreeKeeper freshAgain() {
        CutTreeKeeper x = stale();
        x.undo();
        x.setCapacity(0, 1, 10);
        return x;
    }

    private static CutTreeKeeper fullList() {
        CutTreeKeeper x = built(Graphs.chain(10, 4, 7));
        for (int k = 1; k <= 45; k++) {
            x.setCapacity(k % 4, (k + 1) % 4, k);
        }
        return x;
    }

    private static CutTreeKeeper emptiedList() {
        CutTreeKeeper x = fullList();
        x.build();
        for (int k = 0; k < 40; k++) {
            x.undo();
        }
        return x;
    }

    private static CutTreeKeeper fewerNodes() {
        CutTreeKeeper x = built(Graphs.full(12, 5));
        x.reset(3);
        return x;
    }

    private void add(String name, int due, ToIntFunction<CutTreeKeeper> ask) {
        calls.add(new Call(name, due, ask));
    }

    private void collect() {
        for (int node : new int[] {-1, n, n + 1, 12, 13, 31, 32, 33, 64, -32, LOWEST, LOWEST + 1, HIGHEST}) {
            noSuchNode(node);
            for (int[] pair : new int[][] {{node, 0}, {0, node}, {node, node}, {n - 1, node}, {node, -1}}) {
                pairErrors(pair[0], pair[1], -1);
            }
        }
        for (int node = 0; node < n; node++) {
            pairErrors(node, node, -2);
        }
        badValues();
        if (!state.stored()) {
            noTree();
        }
        notThere();
    }

    private void noSuchNode(int node) {
        add("parent(" + node + ")", -1, x -> x.parent(node));
        add("label(" + node + ")", -1, x -> x.label(node));
        add("side(" + node + ")", -1, x -> x.side(node));
        add("partner(" + node + ")", -1, x -> x.partner(node));
        for (int limit : new int[] {0, 5, 20000, -1, 20001}) {
            add("classOf(" + node + ", " + limit + ")", -1, x -> x.classOf(node, limit));
        }
    }

    /** Errors of the pair come before those of the third argument, and before NO_TREE. */
    private void pairErrors(int u, int v, int due) {
        String pair = "(" + u + ", " + v;
        add("capacity" + pair + ")", due, x -> x.capacity(u, v));
        add("lowerBound" + pair + ")", due, x -> x.lowerBound(u, v));
        add("upperBound" + pair + ")", due, x -> x.upperBound(u, v));
        add("minimumCut" + pair + ")", due, x -> x.minimumCut(u, v));
        add("witness" + pair + ")", due, x -> x.witness(u, v));
        for (int value : new int[] {0, 999, -1, 1000, LOWEST, HIGHEST}) {
            add("setCapacity" + pair + ", " + value + ")", due, x -> x.setCapacity(u, v, value));
        }
        for (int limit : new int[] {0, 20000, -1, 20001, LOWEST, HIGHEST}) {
            add("isAtLeast" + pair + ", " + limit + ")", due, x -> x.isAtLeast(u, v, limit));
        }
    }

    private void badValues() {
        for (int nodes : new int[] {1, 13, 0, -1, -2, -12, 14, 256 + 2, 65536 + 4, LOWEST, LOWEST + 2, HIGHEST}) {
            add("reset(" + nodes + ")", -3, x -> x.reset(nodes));
        }
        for (int value : new int[] {-1, 1000, -999, 65536, LOWEST, LOWEST + 1, HIGHEST}) {
            add("setCapacity(0, 1, " + value + ")", -3, x -> x.setCapacity(0, 1, value));
            add("setCapacity(last, 0, " + value + ")", -3, x -> x.setCapacity(n - 1, 0, value));
        }
        for (int what : new int[] {-1, 4, 5, -3, 256, LOWEST, LOWEST + 3, HIGHEST}) {
            add("count(" + what + ")", -3, x -> x.count(what));
        }
        int all = Graphs.all(n);
        for (int set : new int[] {0, all, all + 1, all + 2, 1 | 1 << n, 2 * all, 1 << 12 | 1, 65537, -1, -2, -all,
                LOWEST, LOWEST | 1, LOWEST + all - 1, HIGHEST}) {
            add("cutWeight(" + set + ")", -3, x -> x.cutWeight(set));
            add("leastAcross(" + set + ")", -3, x -> x.leastAcross(set));
        }
        for (int limit : new int[] {-1, 20001, -20000, 65536, LOWEST, LOWEST + 1, HIGHEST}) {
            add("isAtLeast(0, 1, " + limit + ")", -3, x -> x.isAtLeast(0, 1, limit));
            add("isAtLeast(last, 0, " + limit + ")", -3, x -> x.isAtLeast(n - 1, 0, limit));
            add("classCount(" + limit + ")", -3, x -> x.classCount(limit));
            add("classOf(0, " + limit + ")", -3, x -> x.classOf(0, limit));
            add("classOf(last, " + limit + ")", -3, x -> x.classOf(n - 1, limit));
        }
        for (int k : new int[] {-1, -2, -12, LOWEST, LOWEST + 1}) {
            add("lightCut(" + k + ")", -3, x -> x.lightCut(k));
        }
    }

    /** Node 0 is no exception: NONE is returned only if no error applies. */
    private void noTree() {
        add("loss()", -4, CutTreeKeeper::loss);
        for (int u = 0; u < n; u++) {
            int node = u;
            int other = (u + 1) % n;
            add("parent(" + node + ")", -4, x -> x.parent(node));
            add("label(" + node + ")", -4, x -> x.label(node));
            add("side(" + node + ")", -4, x -> x.side(node));
            add("lowerBound(" + node + ", " + other + ")", -4, x -> x.lowerBound(node, other));
            add("upperBound(" + node + ", " + other + ")", -4, x -> x.upperBound(node, other));
        }
    }

    private void notThere() {
        if (state.stored()) {
            add("parent(0)", -5, x -> x.parent(0));
            add("label(0)", -5, x -> x.label(0));
        }
        if (!state.changed()) {
            add("undo()", -5, CutTreeKeeper::undo);
        }
    }

    private void askAll() {
        List<Integer> due = allThatShows(state.maker().get());
        for (Call call : calls) {
            CutTreeKeeper x = state.maker().get();
            String name = state.name() + ": " + call.name();
            checks.sentence("the order of the @return line is the order of the checks");
            checks.due(name, call.ask().applyAsInt(x), call.due());
            checks.sentence("A call that reports an error changes nothing");
            checks.holds("as before " + name, allThatShows(x).equals(due));
        }
    }

    /** Answers that tell the whole state, and no more calls than an object may get. */
    private List<Integer> allThatShows(CutTreeKeeper x) {
        List<Integer> seen = new ArrayList<>();
        for (int what = 0; what < 4; what++) {
            seen.add(x.count(what));
        }
        seen.add(x.isFresh());
        seen.add(x.loss());
        for (int u = 0; u < n; u++) {
            seen.addAll(List.of(x.parent(u), x.label(u), x.side(u)));
            seen.addAll(List.of(x.lowerBound(u, (u + 1) % n), x.upperBound(u, (u + 1) % n)));
            for (int v = u + 1; v < n; v++) {
                seen.add(x.capacity(u, v));
            }
        }
        for (int left = x.undo(); left >= 0; left = x.undo()) {
            seen.addAll(List.of(left, x.cutWeight(1), x.cutWeight(2), x.cutWeight(3), x.cutWeight(5)));
        }
        seen.addAll(List.of(x.isFresh(), x.loss(), x.build(), x.count(3)));
        return seen;
    }
}
