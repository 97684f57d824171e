/** Promises 16 to 18: minimumCut, witness, isAtLeast. */
public final class LazyQuestionsTest {
    private static final int LOWEST = Integer.MIN_VALUE;
    private static final int HIGHEST = Integer.MAX_VALUE;
    private static final Checks checks = new Checks();

    public static void main(String[] args) {
        firstQuestionBuilds();
        minimumCut();
        bothBoundsZero();
        witness();
        witnessTakesTheFirstOfSeveral();
        witnessByPresentWeights();
        isAtLeast();
        isAtLeastAtItsLimits();
        pairsRefused();
        limitsRefused();
        checks.end();
    }

    private static CutTreeKeeper chainOfFour() {
        CutTreeKeeper x = new CutTreeKeeper();
        x.setCapacity(0, 1, 10);
        x.setCapacity(1, 2, 4);
        x.setCapacity(2, 3, 7);
        return x;
    }

    private static void firstQuestionBuilds() {
        CutTreeKeeper x = chainOfFour();
        checks.due("minimumCut(3, 0)", x.minimumCut(3, 0), 4);
        checks.due("count(3)", x.count(3), 3);
        x = chainOfFour();
        checks.due("witness(3, 0)", x.witness(3, 0), 12);
        checks.due("count(3)", x.count(3), 3);
        // Built although no cut can be below 0 or above 11 * 999.
        x = chainOfFour();
        checks.due("isAtLeast(3, 0, 0)", x.isAtLeast(3, 0, 0), 1);
        checks.due("count(3)", x.count(3), 3);
        x = chainOfFour();
        checks.due("isAtLeast(3, 0, 20000)", x.isAtLeast(3, 0, 20000), 0);
        checks.due("count(3)", x.count(3), 3);
        x.reset(4);
        checks.due("minimumCut(0, 1) after reset", x.minimumCut(0, 1), 0);
        checks.due("count(3) after reset", x.count(3), 3);
    }

    private static void minimumCut() {
        CutTreeKeeper x = chainOfFour();
        x.build();
        checks.due("minimumCut(0, 1)", x.minimumCut(0, 1), 10);
        checks.due("minimumCut(1, 3)", x.minimumCut(1, 3), 4);
        checks.due("count(3), fresh", x.count(3), 3);
        x.setCapacity(0, 1, 6);
        checks.due("minimumCut(1, 0), bounds 6 and 6", x.minimumCut(1, 0), 6);
        checks.due("count(3), decided", x.count(3), 3);
        checks.due("isFresh(), decided", x.isFresh(), 0);
        checks.due("minimumCut(2, 3), bounds 3 and 7", x.minimumCut(2, 3), 7);
        checks.due("count(3), undecided", x.count(3), 6);
        checks.due("isFresh(), undecided", x.isFresh(), 1);
        x.setCapacity(0, 3, 1);
        checks.due("minimumCut(0, 3), bounds 4 and 5", x.minimumCut(0, 3), 5);
        checks.due("count(3), undecided", x.count(3), 9);
    }

    private static void bothBoundsZero() {
        CutTreeKeeper x = chainOfFour();
        x.build();
        x.setCapacity(1, 2, 0);
        checks.due("minimumCut(0, 3)", x.minimumCut(0, 3), 0);
        checks.due("witness(0, 3)", x.witness(0, 3), 3);
        checks.due("count(3)", x.count(3), 3);
    }

    private static void witness() {
        CutTreeKeeper x = chainOfFour();
        x.build();
        checks.due("witness(0, 1)", x.witness(0, 1), 1);
        checks.due("witness(1, 0)", x.witness(1, 0), 14);
        checks.due("witness(0, 3)", x.witness(0, 3), 3);
        checks.due("witness(3, 0)", x.witness(3, 0), 12);
        checks.due("witness(2, 3)", x.witness(2, 3), 7);
        checks.due("count(3), fresh", x.count(3), 3);
        x.setCapacity(0, 1, 6);
        checks.due("witness(1, 0), decided", x.witness(1, 0), 14);
        checks.due("count(3), decided", x.count(3), 3);
        checks.due("witness(3, 2), undecided", x.witness(3, 2), 8);
        checks.due("count(3), undecided", x.count(3), 6);
    }

    /** Six nodes, two branches below node 0: 0 - 1 - 2 and 0 - 3 - 4 - 5. */
    private static void witnessTakesTheFirstOfSeveral() {
        CutTreeKeeper x = new CutTreeKeeper();
        x.reset(6);
        x.setCapacity(0, 1, 2);
        x.setCapacity(1, 2, 1);
        x.setCapacity(0, 3, 4);
        x.setCapacity(3, 4, 3);
        x.setCapacity(4, 5, 2);
        x.build();
        checks.due("parent(2)", x.parent(2), 1);
        checks.due("parent(4)", x.parent(4), 3);
        checks.due("parent(5)", x.parent(5), 4);
        // Sides of the weight 0 on both branches: the bounds meet, and the tree stays.
        x.setCapacity(0, 1, 0);
        x.setCapacity(1, 2, 0);
        x.setCapacity(0, 3, 0);
        x.setCapacity(3, 4, 0);
        x.setCapacity(4, 5, 0);
        checks.due("witness(2, 5)", x.witness(2, 5), 4);
        checks.due("witness(5, 2)", x.witness(5, 2), 32);
        checks.due("witness(2, 1)", x.witness(2, 1), 4);
        checks.due("witness(1, 5), first upwards", x.witness(1, 5), 6);
        checks.due("witness(0, 5), first downwards", x.witness(0, 5), 7);
        checks.due("witness(0, 2), first downwards", x.witness(0, 2), 57);
        checks.due("witness(3, 5), first downwards", x.witness(3, 5), 15);
        checks.due("witness(5, 0), first upwards", x.witness(5, 0), 32);
        x.setCapacity(1, 2, 1);
        checks.due("witness(2, 5), second upwards", x.witness(2, 5), 6);
        x.undo();
        x.setCapacity(0, 2, 5);
        checks.due("witness(2, 5), first behind the turn", x.witness(2, 5), 7);
        checks.due("count(3), never undecided", x.count(3), 5);
    }

    private static void witnessByPresentWeights() {
        CutTreeKeeper x = chainOfFour();
        x.build();
        x.setCapacity(2, 3, 0);
        checks.due("witness(0, 3)", x.witness(0, 3), 7);
        checks.due("witness(3, 0)", x.witness(3, 0), 8);
        checks.due("minimumCut(3, 0)", x.minimumCut(3, 0), 0);
        checks.due("count(3)", x.count(3), 3);
    }

    private static void isAtLeast() {
        CutTreeKeeper x = chainOfFour();
        x.build();
        checks.due("isAtLeast(0, 3, 4)", x.isAtLeast(0, 3, 4), 1);
        checks.due("isAtLeast(0, 3, 5)", x.isAtLeast(0, 3, 5), 0);
        checks.due("isAtLeast(3, 2, 7)", x.isAtLeast(3, 2, 7), 1);
        checks.due("isAtLeast(3, 2, 8)", x.isAtLeast(3, 2, 8), 0);
        checks.due("isAtLeast(3, 2, 20000)", x.isAtLeast(3, 2, 20000), 0);
        checks.due("count(3)", x.count(3), 3);
    }

    private static void isAtLeastAtItsLimits() {
        // The chain of four with a loss of 4: the bounds of 2 and 3 are 3 and 7, the value is 7.
        int[] limits = {0, 3, 4, 7, 8, 20000};
        int[] answers = {1, 1, 1, 1, 0, 0};
        int[] flows = {3, 3, 6, 6, 3, 3};
        for (int k = 0; k < limits.length; k++) {
            CutTreeKeeper x = chainOfFour();
            x.build();
            x.setCapacity(0, 1, 6);
            checkIsAtLeast(x, 2, 3, limits[k], answers[k], flows[k]);
        }
        // A star with a gain of 9: the bounds of 0 and 1 are 5 and 14, the value is 10.
        limits = new int[] {5, 6, 10, 11, 14, 15};
        answers = new int[] {1, 1, 1, 0, 0, 0};
        flows = new int[] {3, 6, 6, 6, 6, 3};
        for (int k = 0; k < limits.length; k++) {
            CutTreeKeeper x = new CutTreeKeeper();
            x.setCapacity(0, 1, 5);
            x.setCapacity(0, 2, 5);
            x.setCapacity(0, 3, 5);
            x.build();
            x.setCapacity(1, 2, 9);
            checkIsAtLeast(x, 0, 1, limits[k], answers[k], flows[k]);
        }
    }

    private static void checkIsAtLeast(CutTreeKeeper x, int s, int t, int limit, int answer, int flows) {
        String call = "isAtLeast(" + s + ", " + t + ", " + limit + ")";
        checks.due(call, x.isAtLeast(s, t, limit), answer);
        checks.due("count(3) behind " + call, x.count(3), flows);
        checks.due("isFresh() behind " + call, x.isFresh(), flows == 6 ? 1 : 0);
    }

    private static void pairsRefused() {
        CutTreeKeeper x = chainOfFour();
        int[][] noNodes = {{-1, 0}, {0, -1}, {4, 0}, {0, 4}, {4, 4}, {-1, -1}, {LOWEST, HIGHEST}};
        for (int[] pair : noNodes) {
            checks.due("minimumCut, no node", x.minimumCut(pair[0], pair[1]), -1);
            checks.due("witness, no node", x.witness(pair[0], pair[1]), -1);
            checks.due("isAtLeast, no node", x.isAtLeast(pair[0], pair[1], 1), -1);
            checks.due("isAtLeast, no node, no limit", x.isAtLeast(pair[0], pair[1], -1), -1);
        }
        checks.due("minimumCut(2, 2)", x.minimumCut(2, 2), -2);
        checks.due("witness(2, 2)", x.witness(2, 2), -2);
        checks.due("isAtLeast(2, 2, 1)", x.isAtLeast(2, 2, 1), -2);
        checks.due("isAtLeast(2, 2, 20001)", x.isAtLeast(2, 2, 20001), -2);
        checks.due("count(3) after refused calls", x.count(3), 0);
        checks.due("loss() after refused calls", x.loss(), -4);
    }

    private static void limitsRefused() {
        CutTreeKeeper x = chainOfFour();
        for (int limit : new int[] {-1, 20001, LOWEST, HIGHEST}) {
            checks.due("isAtLeast(0, 1, " + limit + ")", x.isAtLeast(0, 1, limit), -3);
        }
        checks.due("count(3) after refused calls", x.count(3), 0);
    }
}
