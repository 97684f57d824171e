import java.util.Random;

/** Long runs of calls with fixed seeds, each answer compared with that of the plain model. */
public final class RandomRunsTest {
    private static final int RUNS = 2500;
    private static final int CALLS = 512;
    private static final int[] ODD = {-1, -2, -5, 12, 13, 31, 32, 33, 1000, 4095, 4096, 20001,
        Integer.MIN_VALUE, Integer.MIN_VALUE + 1, Integer.MAX_VALUE};

    private static final Checks checks = new Checks();

    private final Random random;
    private final CutTreeKeeper real = new CutTreeKeeper();
    private final PlainModel model = new PlainModel();
    private final StringBuilder told = new StringBuilder();
    private final int greatest;
    private final int changeShare;
    private int calls = 0;

    private RandomRunsTest(int seed) {
        random = new Random(seed);
        // Small capacities make many cuts of the same weight.
        int[] scales = {1, 2, 3, 9, 60, 999};
        greatest = scales[random.nextInt(scales.length)];
        changeShare = 10 + random.nextInt(60);
    }

    public static void main(String[] args) {
        for (int seed = 1; seed <= RUNS && !checks.anyWrong(); seed++) {
            new RandomRunsTest(seed).run(seed);
        }
        checks.end();
    }

    private void run(int seed) {
        if (random.nextInt(4) != 0) {
            int nodes = 2 + random.nextInt(random.nextInt(5) == 0 ? 11 : 7);
            same("reset", real.reset(nodes), model.reset(nodes), nodes);
            for (int left = random.nextInt(2) * nodes * nodes / 2; left > 0; left--) change();
        }
        for (int round = 0; calls < CALLS - 120 && !checks.anyWrong(); round++) {
            if (random.nextInt(100) < changeShare) change();
            else question();
            if (round % 64 == 0) {
                checks.holds("seed " + seed + ": the tree is sound", model.treeIsSound());
                checks.holds("seed " + seed + ": the bounds are sound", model.boundsAreSound());
            }
        }
        wholeState();
        if (checks.anyWrong()) System.out.println("seed " + seed + ", the calls before:" + told);
    }

    private void same(String name, int got, int want, int... arguments) {
        calls++;
        StringBuilder call = new StringBuilder(name).append('(');
        for (int k = 0; k < arguments.length; k++) call.append(k == 0 ? "" : ", ").append(arguments[k]);
        call.append(')');
        checks.due(call.toString(), got, want);
        told.append(' ').append(call).append(" = ").append(got).append(';');
    }

    private int odd() {
        return ODD[random.nextInt(ODD.length)];
    }

    private int node() {
        return random.nextInt(60) == 0 ? odd() : random.nextInt(model.count(0));
    }

    private int otherNode(int node) {
        int other = node();
        return other == node && random.nextInt(20) != 0 ? (node + 1) % model.count(0) : other;
    }

    private int set() {
        return random.nextInt(30) == 0 ? odd() : random.nextInt((1 << model.count(0)) + 1);
    }

    /** A limit near the interesting values: around the bounds of a pair, if they are known. */
    private int limit(int s, int t) {
        int kind = random.nextInt(12);
        if (kind == 0) return random.nextInt(20002);
        if (kind == 1) return odd();
        int low = Math.max(0, model.lowerBound(s, t));
        int high = Math.max(low, model.upperBound(s, t));
        return low - 1 + random.nextInt(high - low + 4);
    }

    private void change() {
        int kind = random.nextInt(400);
        if (kind == 0) {
            int nodes = random.nextInt(3) == 0 ? odd() : 2 + random.nextInt(7);
            same("reset", real.reset(nodes), model.reset(nodes), nodes);
        } else if (kind < 90) {
            same("undo", real.undo(), model.undo());
        } else {
            int u = node();
            int v = otherNode(u);
            int value = newCapacity(u, v);
            same("setCapacity", real.setCapacity(u, v, value), model.setCapacity(u, v, value), u, v, value);
        }
    }

    private int newCapacity(int u, int v) {
        int kind = random.nextInt(40);
        if (kind == 0) return odd();
        if (kind < 4) return Math.max(0, model.capacity(u, v));
        if (kind < 10) return 0;
        if (kind < 20) return Math.max(0, model.capacity(u, v) + random.nextInt(3) - 1);
        return random.nextInt(greatest + 1);
    }

    private void question() {
        int s = node();
        int t = otherNode(s);
        switch (random.nextInt(24)) {
            case 0 -> same("capacity", real.capacity(s, t), model.capacity(s, t), s, t);
            case 1 -> {
                int what = random.nextInt(10) == 0 ? odd() : random.nextInt(5);
                same("count", real.count(what), model.count(what), what);
            }
            case 2 -> {
                int set = set();
                same("cutWeight", real.cutWeight(set), model.cutWeight(set), set);
            }
            case 3 -> same("build", real.build(), model.build());
            case 4 -> same("isFresh", real.isFresh(), model.isFresh());
            case 5 -> same("parent", real.parent(s), model.parent(s), s);
            case 6 -> same("label", real.label(s), model.label(s), s);
            case 7 -> same("side", real.side(s), model.side(s), s);
            case 8 -> same("loss", real.loss(), model.loss());
            case 9 -> same("lowerBound", real.lowerBound(s, t), model.lowerBound(s, t), s, t);
            case 10 -> same("upperBound", real.upperBound(s, t), model.upperBound(s, t), s, t);
            case 11, 12, 13 -> same("minimumCut", real.minimumCut(s, t), model.minimumCut(s, t), s, t);
            case 14, 15, 16 -> same("witness", real.witness(s, t), model.witness(s, t), s, t);
            case 17, 18 -> {
                int limit = limit(s, t);
                same("isAtLeast", real.isAtLeast(s, t, limit), model.isAtLeast(s, t, limit), s, t, limit);
            }
            default -> freshQuestion(s, t);
        }
        same("count", real.count(3), model.count(3), 3);
    }

    private void freshQuestion(int s, int t) {
        int limit = limit(s, t);
        switch (random.nextInt(5)) {
            case 0 -> {
                int k = random.nextInt(10) == 0 ? odd() : random.nextInt(model.count(0) + 1) - 1;
                same("lightCut", real.lightCut(k), model.lightCut(k), k);
            }
            case 1 -> same("classCount", real.classCount(limit), model.classCount(limit), limit);
            case 2 -> same("classOf", real.classOf(s, limit), model.classOf(s, limit), s, limit);
            case 3 -> same("partner", real.partner(s), model.partner(s), s);
            default -> {
                int set = set();
                same("leastAcross", real.leastAcross(set), model.leastAcross(set), set);
            }
        }
    }

    /** At most 120 calls, which build no tree before the last ones. */
    private void wholeState() {
        for (int what = 0; what < 4; what++) same("count", real.count(what), model.count(what), what);
        same("isFresh", real.isFresh(), model.isFresh());
        same("loss", real.loss(), model.loss());
        for (int x = 0; x < model.count(0); x++) {
            same("parent", real.parent(x), model.parent(x), x);
            same("label", real.label(x), model.label(x), x);
            same("side", real.side(x), model.side(x), x);
        }
        while (model.count(2) > 0 && calls < CALLS) same("undo", real.undo(), model.undo());
        for (int left = 8; left > 0 && calls < CALLS; left--) {
            int u = random.nextInt(model.count(0));
            int v = (u + 1) % model.count(0);
            same("capacity", real.capacity(u, v), model.capacity(u, v), u, v);
            same("isFresh", real.isFresh(), model.isFresh());
            same("minimumCut", real.minimumCut(u, v), model.minimumCut(u, v), u, v);
        }
    }
}
