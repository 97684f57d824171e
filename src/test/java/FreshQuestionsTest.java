/** Promises 19 to 23: lightCut, classCount, classOf, partner, leastAcross. */
public final class FreshQuestionsTest {
    private static final int LOWEST = Integer.MIN_VALUE;
    private static final int HIGHEST = Integer.MAX_VALUE;
    private static final Checks checks = new Checks();

    public static void main(String[] args) {
        eachBuildsIfNotFresh();
        noneBuildsIfRefused();
        lightCut();
        classCount();
        classOf();
        partner();
        leastAcross();
        twoNodes();
        checks.end();
    }

    /** A chain 0 - 1 - 2 - 3 - 4 with the labels 5, 3, 5 and 8. */
    private static CutTreeKeeper chainOfFive() {
        CutTreeKeeper x = new CutTreeKeeper();
        x.reset(5);
        x.setCapacity(0, 1, 5);
        x.setCapacity(1, 2, 3);
        x.setCapacity(2, 3, 5);
        x.setCapacity(3, 4, 8);
        return x;
    }

    private static int ask(CutTreeKeeper x, int which) {
        switch (which) {
            case 0: return x.lightCut(0);
            case 1: return x.classCount(6);
            case 2: return x.classOf(1, 4);
            case 3: return x.partner(3);
            case 4: return x.leastAcross(1);
            default: return x.lightCut(4);
        }
    }

    private static void eachBuildsIfNotFresh() {
        int[] before = {2, 4, 3, 4, 3, -5};
        int[] after = {3, 3, 7, 4, 1, -5};
        for (int which = 0; which < 6; which++) {
            CutTreeKeeper x = chainOfFive();
            checks.due("question " + which, ask(x, which), before[which]);
            checks.due("question " + which + ": count(3)", x.count(3), 4);
            checks.due("question " + which + " again", ask(x, which), before[which]);
            checks.due("question " + which + " again: count(3)", x.count(3), 4);
            x.setCapacity(1, 2, 6);
            x.setCapacity(2, 3, 1);
            checks.due("question " + which + " after changes", ask(x, which), after[which]);
            checks.due("question " + which + " after changes: count(3)", x.count(3), 8);
            checks.due("question " + which + " after changes: isFresh()", x.isFresh(), 1);
            x.setCapacity(1, 2, 7);
            x.undo();
            checks.due("question " + which + " after undo()", ask(x, which), after[which]);
            checks.due("question " + which + " after undo(): count(3)", x.count(3), 8);
        }
    }

    private static void noneBuildsIfRefused() {
        CutTreeKeeper x = chainOfFive();
        for (int k : new int[] {-1, -5, LOWEST}) {
            checks.due("lightCut(" + k + ")", x.lightCut(k), -3);
        }
        for (int limit : new int[] {-1, 20001, LOWEST, HIGHEST}) {
            checks.due("classCount(" + limit + ")", x.classCount(limit), -3);
            checks.due("classOf(4, " + limit + ")", x.classOf(4, limit), -3);
            checks.due("classOf(5, " + limit + ")", x.classOf(5, limit), -1);
        }
        for (int node : new int[] {-1, 5, 12, LOWEST, HIGHEST}) {
            checks.due("classOf(" + node + ", 1)", x.classOf(node, 1), -1);
            checks.due("partner(" + node + ")", x.partner(node), -1);
        }
        for (int set : new int[] {0, 31, 32, 33, -1, LOWEST, HIGHEST}) {
            checks.due("leastAcross(" + set + ")", x.leastAcross(set), -3);
        }
        checks.due("count(3) after refused calls", x.count(3), 0);
        checks.due("loss() after refused calls", x.loss(), -4);
    }

    private static void lightCut() {
        CutTreeKeeper x = chainOfFive();
        int[] order = {2, 1, 3, 4, -5, -5};
        for (int k = 0; k < order.length; k++) {
            checks.due("lightCut(" + k + ")", x.lightCut(k), order[k]);
        }
        checks.due("lightCut(HIGHEST)", x.lightCut(HIGHEST), -5);
        checks.due("count(3)", x.count(3), 4);
    }

    private static void classCount() {
        CutTreeKeeper x = chainOfFive();
        int[] limits = {0, 1, 3, 4, 5, 6, 8, 9, 20000};
        int[] counts = {1, 1, 1, 2, 2, 4, 4, 5, 5};
        for (int k = 0; k < limits.length; k++) {
            checks.due("classCount(" + limits[k] + ")", x.classCount(limits[k]), counts[k]);
        }
    }

    private static void classOf() {
        CutTreeKeeper x = chainOfFive();
        checks.due("classOf(0, 3)", x.classOf(0, 3), 31);
        checks.due("classOf(0, 4)", x.classOf(0, 4), 3);
        checks.due("classOf(4, 5)", x.classOf(4, 5), 28);
        checks.due("classOf(4, 6)", x.classOf(4, 6), 24);
        checks.due("classOf(4, 9)", x.classOf(4, 9), 16);
        checks.due("classOf(2, 20000)", x.classOf(2, 20000), 4);
        checks.due("classOf(2, 0)", x.classOf(2, 0), 31);
        // Two nodes of one class whose path goes through node 0.
        x.reset(3);
        x.setCapacity(0, 1, 6);
        x.setCapacity(0, 2, 7);
        checks.due("classOf(1, 6)", x.classOf(1, 6), 7);
        checks.due("classOf(1, 7)", x.classOf(1, 7), 2);
        checks.due("classOf(2, 7)", x.classOf(2, 7), 5);
    }

    private static void partner() {
        CutTreeKeeper x = chainOfFive();
        int[] partners = {1, 0, 3, 4, 3};
        for (int node = 0; node < 5; node++) {
            checks.due("partner(" + node + ")", x.partner(node), partners[node]);
        }
        // All the same, also if all are 0: the lowest of the others.
        x.reset(4);
        checks.due("partner(0) without edges", x.partner(0), 1);
        checks.due("partner(1) without edges", x.partner(1), 0);
        checks.due("partner(3) without edges", x.partner(3), 0);
        x.setCapacity(2, 3, 1);
        checks.due("partner(3)", x.partner(3), 2);
        checks.due("partner(2)", x.partner(2), 3);
        checks.due("partner(1)", x.partner(1), 0);
    }

    private static void leastAcross() {
        CutTreeKeeper x = chainOfFive();
        for (int set = 1; set < 31; set++) {
            checks.due("leastAcross(" + set + ")", x.leastAcross(set), 3);
        }
        x.setCapacity(1, 2, 9);
        x.setCapacity(0, 4, 2);
        checks.due("leastAcross(1)", x.leastAcross(1), 7);
        checks.due("leastAcross(12)", x.leastAcross(12), 7);
    }

    private static void twoNodes() {
        CutTreeKeeper x = new CutTreeKeeper();
        x.reset(2);
        x.setCapacity(1, 0, 999);
        checks.due("lightCut(0)", x.lightCut(0), 1);
        checks.due("lightCut(1)", x.lightCut(1), -5);
        checks.due("classCount(999)", x.classCount(999), 1);
        checks.due("classCount(1000)", x.classCount(1000), 2);
        checks.due("classOf(1, 999)", x.classOf(1, 999), 3);
        checks.due("classOf(1, 1000)", x.classOf(1, 1000), 2);
        checks.due("partner(0)", x.partner(0), 1);
        checks.due("partner(1)", x.partner(1), 0);
        checks.due("leastAcross(1)", x.leastAcross(1), 999);
        checks.due("leastAcross(2)", x.leastAcross(2), 999);
        checks.due("leastAcross(3)", x.leastAcross(3), -3);
        checks.due("count(3)", x.count(3), 1);
    }
}
