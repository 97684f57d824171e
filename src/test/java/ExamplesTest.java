/** The three examples of the document, call by call. */
public final class ExamplesTest {
    private static final Checks checks = new Checks();

    public static void main(String[] args) {
        ring();
        boundsThatDecide();
        changesTakenBack();
        checks.end();
    }

    private static void ring() {
        CutTreeKeeper x = new CutTreeKeeper();
        checks.due("1: setCapacity(0, 1, 3)", x.setCapacity(0, 1, 3), 0);
        checks.due("1: setCapacity(1, 2, 5)", x.setCapacity(1, 2, 5), 0);
        checks.due("1: setCapacity(2, 3, 2)", x.setCapacity(2, 3, 2), 0);
        checks.due("1: setCapacity(3, 0, 4)", x.setCapacity(3, 0, 4), 0);
        checks.due("1: minimumCut(0, 2)", x.minimumCut(0, 2), 5);
        checks.due("1: count(3)", x.count(3), 3);
        checks.due("1: parent(1)", x.parent(1), 0);
        checks.due("1: label(1)", x.label(1), 5);
        checks.due("1: side(2)", x.side(2), 4);
        checks.due("1: witness(3, 1)", x.witness(3, 1), 9);
        checks.due("1: lightCut(0)", x.lightCut(0), 1);
        checks.due("1: cutWeight(5)", x.cutWeight(5), 14);
        checks.due("1: classCount(6)", x.classCount(6), 2);
        checks.due("1: isFresh()", x.isFresh(), 1);
        checks.due("1: partner(0)", x.partner(0), 3);
        checks.due("1: leastAcross(1)", x.leastAcross(1), 5);
    }

    private static void boundsThatDecide() {
        CutTreeKeeper x = new CutTreeKeeper();
        checks.due("2: setCapacity(0, 1, 10)", x.setCapacity(0, 1, 10), 0);
        checks.due("2: setCapacity(1, 2, 4)", x.setCapacity(1, 2, 4), 0);
        checks.due("2: setCapacity(2, 3, 7)", x.setCapacity(2, 3, 7), 0);
        checks.due("2: build()", x.build(), 3);
        checks.due("2: setCapacity(0, 1, 6)", x.setCapacity(0, 1, 6), 10);
        checks.due("2: isFresh()", x.isFresh(), 0);
        checks.due("2: loss()", x.loss(), 4);
        checks.due("2: lowerBound(0, 1)", x.lowerBound(0, 1), 6);
        checks.due("2: upperBound(0, 1)", x.upperBound(0, 1), 6);
        checks.due("2: minimumCut(0, 1)", x.minimumCut(0, 1), 6);
        checks.due("2: lowerBound(2, 3)", x.lowerBound(2, 3), 3);
        checks.due("2: upperBound(2, 3)", x.upperBound(2, 3), 7);
        checks.due("2: isAtLeast(2, 3, 8)", x.isAtLeast(2, 3, 8), 0);
        checks.due("2: isAtLeast(2, 3, 2)", x.isAtLeast(2, 3, 2), 1);
        checks.due("2: count(3)", x.count(3), 3);
        checks.due("2: minimumCut(2, 3)", x.minimumCut(2, 3), 7);
    }

    private static void changesTakenBack() {
        CutTreeKeeper x = new CutTreeKeeper();
        checks.due("3: reset(2)", x.reset(2), 4);
        checks.due("3: parent(1)", x.parent(1), -4);
        checks.due("3: setCapacity(0, 1, 9)", x.setCapacity(0, 1, 9), 0);
        checks.due("3: setCapacity(1, 0, 8)", x.setCapacity(1, 0, 8), 9);
        checks.due("3: undo()", x.undo(), 1);
        checks.due("3: capacity(0, 1)", x.capacity(0, 1), 9);
        checks.due("3: undo()", x.undo(), 0);
        checks.due("3: undo()", x.undo(), -5);
        checks.due("3: minimumCut(0, 1)", x.minimumCut(0, 1), 0);
        checks.due("3: witness(1, 0)", x.witness(1, 0), 2);
        checks.due("3: isFresh()", x.isFresh(), 1);
        checks.due("3: setCapacity(0, 0, 1)", x.setCapacity(0, 0, 1), -2);
        checks.due("3: setCapacity(0, 2, 1)", x.setCapacity(0, 2, 1), -1);
        checks.due("3: cutWeight(3)", x.cutWeight(3), -3);
        checks.due("3: lightCut(1)", x.lightCut(1), -5);
        checks.due("3: classOf(1, 0)", x.classOf(1, 0), 3);
    }
}
