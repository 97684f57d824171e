/**
 * Every graph of 2 to 4 nodes with small capacities, so that each kind of tie
 * is met: all answers for a fresh tree, and all lazy questions after every
 * single change, compared with those of the plain model.
 */
public final class SmallGraphsTest {
    private static final Checks checks = new Checks();

    private final int n;
    private final int[] capacities;
    private CutTreeKeeper real;
    private PlainModel model;
    private String change = "";

    private SmallGraphsTest(int n, int[] capacities) {
        this.n = n;
        this.capacities = capacities;
    }

    public static void main(String[] args) {
        eachGraph(2, 4, true);
        eachGraph(3, 3, true);
        eachGraph(4, 2, true);
        eachGraph(4, 3, false);
        checks.end();
    }

    private static void eachGraph(int n, int values, boolean withChanges) {
        int pairs = n * (n - 1) / 2;
        int graphs = (int) Math.pow(values, pairs);
        for (int number = 0; number < graphs; number++) {
            int[] capacities = new int[pairs];
            int rest = number;
            for (int k = 0; k < pairs; k++) {
                capacities[k] = rest % values;
                rest /= values;
            }
            SmallGraphsTest test = new SmallGraphsTest(n, capacities);
            test.freshTree();
            if (withChanges) test.eachChange(values);
        }
    }

    private void makeBoth() {
        real = new CutTreeKeeper();
        model = new PlainModel();
        real.reset(n);
        model.reset(n);
        int next = 0;
        for (int u = 0; u < n; u++) {
            for (int v = u + 1; v < n; v++) {
                real.setCapacity(u, v, capacities[next]);
                model.setCapacity(u, v, capacities[next]);
                next++;
            }
        }
        due("build()", real.build(), model.build());
    }

    private void due(String call, int got, int want) {
        // The text is made for wrong answers alone, since there are many right ones.
        checks.due(got == want ? "" : java.util.Arrays.toString(capacities) + change + ": " + call, got, want);
    }

    private void freshTree() {
        makeBoth();
        checks.holds("the tree is sound", model.treeIsSound());
        for (int s = 0; s < n; s++) {
            due("parent", real.parent(s), model.parent(s));
            due("label", real.label(s), model.label(s));
            due("side", real.side(s), model.side(s));
            due("partner", real.partner(s), model.partner(s));
            due("lightCut", real.lightCut(s), model.lightCut(s));
            for (int limit = 0; limit <= 7; limit++) {
                due("classOf", real.classOf(s, limit), model.classOf(s, limit));
                due("classCount", real.classCount(limit), model.classCount(limit));
            }
            for (int t = 0; t < n; t++) {
                due("minimumCut", real.minimumCut(s, t), model.minimumCut(s, t));
                due("witness", real.witness(s, t), model.witness(s, t));
            }
        }
        for (int set = -1; set <= 1 << n; set++) {
            due("cutWeight", real.cutWeight(set), model.cutWeight(set));
            due("leastAcross", real.leastAcross(set), model.leastAcross(set));
        }
        due("count(3)", real.count(3), model.count(3));
    }

    private void eachChange(int values) {
        for (int u = 0; u < n; u++) {
            for (int v = u + 1; v < n; v++) {
                for (int value = 0; value <= values; value++) {
                    change = " and then setCapacity(" + u + ", " + v + ", " + value + ")";
                    eachPairAfter(u, v, value);
                }
            }
        }
    }

    private void eachPairAfter(int u, int v, int value) {
        for (int s = 0; s < n; s++) {
            for (int t = 0; t < n; t++) {
                if (s == t) continue;
                for (int question = 0; question < 6; question++) {
                    makeBoth();
                    due("setCapacity", real.setCapacity(u, v, value), model.setCapacity(u, v, value));
                    ask(question, s, t);
                    due("count(3)", real.count(3), model.count(3));
                    due("isFresh()", real.isFresh(), model.isFresh());
                }
            }
        }
    }

    private void ask(int question, int s, int t) {
        int low = model.lowerBound(s, t);
        int high = model.upperBound(s, t);
        due("loss()", real.loss(), model.loss());
        due("lowerBound", real.lowerBound(s, t), low);
        due("upperBound", real.upperBound(s, t), high);
        switch (question) {
            case 0 -> due("minimumCut", real.minimumCut(s, t), model.minimumCut(s, t));
            case 1 -> due("witness", real.witness(s, t), model.witness(s, t));
            case 2 -> due("isAtLeast", real.isAtLeast(s, t, low), model.isAtLeast(s, t, low));
            case 3 -> due("isAtLeast", real.isAtLeast(s, t, low + 1), model.isAtLeast(s, t, low + 1));
            case 4 -> due("isAtLeast", real.isAtLeast(s, t, high), model.isAtLeast(s, t, high));
            default -> due("isAtLeast", real.isAtLeast(s, t, high + 1), model.isAtLeast(s, t, high + 1));
        }
    }
}
