/** Promises 1 to 7: a new object, reset, setCapacity, undo, capacity, count, cutWeight. */
public final class GraphTest {
    private static final int LOWEST = Integer.MIN_VALUE;
    private static final int HIGHEST = Integer.MAX_VALUE;
    private static final Checks checks = new Checks();

    public static void main(String[] args) {
        newObject();
        objectsAreApart();
        reset();
        resetRemovesAll();
        resetRefuses();
        setCapacity();
        setCapacityRefuses();
        sameValueIsAChange();
        undo();
        listKeepsForty();
        undoAfterTheListHasTurned();
        capacity();
        count();
        cutWeight();
        cutWeightRefuses();
        checks.end();
    }

    private static void newObject() {
        CutTreeKeeper x = new CutTreeKeeper();
        checks.due("new: count(0)", x.count(0), 4);
        checks.due("new: count(1)", x.count(1), 0);
        checks.due("new: count(2)", x.count(2), 0);
        checks.due("new: count(3)", x.count(3), 0);
        checks.due("new: isFresh()", x.isFresh(), 0);
        checks.due("new: loss()", x.loss(), -4);
        checks.due("new: parent(3)", x.parent(3), -4);
        checks.due("new: parent(4)", x.parent(4), -1);
        checks.due("new: capacity(2, 3)", x.capacity(2, 3), 0);
        checks.due("new: undo()", x.undo(), -5);
    }

    private static void objectsAreApart() {
        CutTreeKeeper x = new CutTreeKeeper();
        CutTreeKeeper y = new CutTreeKeeper();
        x.setCapacity(0, 1, 5);
        x.build();
        checks.due("apart: capacity(0, 1)", y.capacity(0, 1), 0);
        checks.due("apart: count(2)", y.count(2), 0);
        checks.due("apart: count(3)", y.count(3), 0);
        checks.due("apart: isFresh()", y.isFresh(), 0);
    }

    private static void reset() {
        CutTreeKeeper x = new CutTreeKeeper();
        checks.due("reset(2)", x.reset(2), 4);
        checks.due("reset(12)", x.reset(12), 2);
        checks.due("reset(12)", x.reset(12), 12);
        checks.due("reset(7)", x.reset(7), 12);
        checks.due("count(0)", x.count(0), 7);
        checks.due("capacity(0, 6)", x.capacity(0, 6), 0);
        checks.due("capacity(0, 7)", x.capacity(0, 7), -1);
    }

    private static void resetRemovesAll() {
        CutTreeKeeper x = new CutTreeKeeper();
        x.setCapacity(0, 1, 5);
        x.setCapacity(2, 3, 6);
        x.build();
        checks.due("reset(4)", x.reset(4), 4);
        for (int u = 0; u < 4; u++) {
            for (int v = 0; v < 4; v++) {
                checks.due("capacity after reset", x.capacity(u, v), u == v ? -2 : 0);
            }
        }
        checks.due("count(1) after reset", x.count(1), 0);
        checks.due("count(2) after reset", x.count(2), 0);
        checks.due("count(3) after reset", x.count(3), 0);
        checks.due("isFresh() after reset", x.isFresh(), 0);
        checks.due("side(1) after reset", x.side(1), -4);
        checks.due("loss() after reset", x.loss(), -4);
        checks.due("undo() after reset", x.undo(), -5);
        // A smaller graph hides nodes; a larger one must not bring their edges back.
        x.reset(12);
        x.setCapacity(10, 11, 7);
        x.reset(2);
        x.reset(12);
        checks.due("capacity(10, 11) after two resets", x.capacity(10, 11), 0);
        checks.due("capacity(11, 10) after two resets", x.capacity(11, 10), 0);
    }

    private static void resetRefuses() {
        CutTreeKeeper x = new CutTreeKeeper();
        x.setCapacity(0, 1, 5);
        x.build();
        for (int nodes : new int[] {1, 13, 0, -1, -4, LOWEST, HIGHEST}) {
            checks.due("reset(" + nodes + ")", x.reset(nodes), -3);
        }
        checks.due("count(0) after refused resets", x.count(0), 4);
        checks.due("count(1) after refused resets", x.count(1), 1);
        checks.due("count(2) after refused resets", x.count(2), 1);
        checks.due("count(3) after refused resets", x.count(3), 3);
        checks.due("isFresh() after refused resets", x.isFresh(), 1);
    }

    private static void setCapacity() {
        CutTreeKeeper x = new CutTreeKeeper();
        checks.due("setCapacity(3, 1, 999)", x.setCapacity(3, 1, 999), 0);
        checks.due("capacity(1, 3)", x.capacity(1, 3), 999);
        checks.due("capacity(3, 1)", x.capacity(3, 1), 999);
        checks.due("setCapacity(1, 3, 0)", x.setCapacity(1, 3, 0), 999);
        checks.due("setCapacity(3, 1, 1)", x.setCapacity(3, 1, 1), 0);
        checks.due("capacity(0, 1)", x.capacity(0, 1), 0);
        checks.due("count(2)", x.count(2), 3);
    }

    private static void setCapacityRefuses() {
        CutTreeKeeper x = new CutTreeKeeper();
        x.setCapacity(0, 1, 5);
        checks.due("setCapacity(-1, 0, 1)", x.setCapacity(-1, 0, 1), -1);
        checks.due("setCapacity(0, -1, 1)", x.setCapacity(0, -1, 1), -1);
        checks.due("setCapacity(4, 0, 1)", x.setCapacity(4, 0, 1), -1);
        checks.due("setCapacity(0, 4, 1)", x.setCapacity(0, 4, 1), -1);
        checks.due("setCapacity(LOWEST, HIGHEST, 1)", x.setCapacity(LOWEST, HIGHEST, 1), -1);
        checks.due("setCapacity(2, 2, 1)", x.setCapacity(2, 2, 1), -2);
        checks.due("setCapacity(0, 1, -1)", x.setCapacity(0, 1, -1), -3);
        checks.due("setCapacity(0, 1, 1000)", x.setCapacity(0, 1, 1000), -3);
        checks.due("setCapacity(0, 1, LOWEST)", x.setCapacity(0, 1, LOWEST), -3);
        checks.due("setCapacity(0, 1, HIGHEST)", x.setCapacity(0, 1, HIGHEST), -3);
        // The order of the checks.
        checks.due("setCapacity(4, 4, -1)", x.setCapacity(4, 4, -1), -1);
        checks.due("setCapacity(-1, -1, 5)", x.setCapacity(-1, -1, 5), -1);
        checks.due("setCapacity(4, 0, 1000)", x.setCapacity(4, 0, 1000), -1);
        checks.due("setCapacity(1, 1, 1000)", x.setCapacity(1, 1, 1000), -2);
        checks.due("capacity(0, 1) after refused calls", x.capacity(0, 1), 5);
        checks.due("count(2) after refused calls", x.count(2), 1);
    }

    private static void sameValueIsAChange() {
        CutTreeKeeper x = new CutTreeKeeper();
        checks.due("setCapacity(0, 1, 0)", x.setCapacity(0, 1, 0), 0);
        checks.due("count(2)", x.count(2), 1);
        x.setCapacity(0, 1, 4);
        checks.due("setCapacity(0, 1, 4)", x.setCapacity(0, 1, 4), 4);
        checks.due("count(2)", x.count(2), 3);
        checks.due("undo()", x.undo(), 2);
        checks.due("capacity(0, 1)", x.capacity(0, 1), 4);
        checks.due("undo()", x.undo(), 1);
        checks.due("capacity(0, 1)", x.capacity(0, 1), 0);
    }

    private static void undo() {
        CutTreeKeeper x = new CutTreeKeeper();
        x.setCapacity(0, 1, 5);
        x.setCapacity(3, 2, 6);
        x.setCapacity(1, 0, 7);
        checks.due("undo()", x.undo(), 2);
        checks.due("capacity(0, 1)", x.capacity(0, 1), 5);
        checks.due("capacity(1, 0)", x.capacity(1, 0), 5);
        checks.due("capacity(2, 3)", x.capacity(2, 3), 6);
        checks.due("undo()", x.undo(), 1);
        checks.due("capacity(2, 3)", x.capacity(2, 3), 0);
        checks.due("capacity(3, 2)", x.capacity(3, 2), 0);
        checks.due("count(2)", x.count(2), 1);
        x.setCapacity(0, 2, 8);
        checks.due("undo()", x.undo(), 1);
        checks.due("undo()", x.undo(), 0);
        checks.due("count(1)", x.count(1), 0);
        checks.due("undo()", x.undo(), -5);
        checks.due("undo()", x.undo(), -5);
        checks.due("count(2)", x.count(2), 0);
        checks.due("count(1)", x.count(1), 0);
    }

    private static void listKeepsForty() {
        CutTreeKeeper x = new CutTreeKeeper();
        for (int value = 1; value <= 43; value++) {
            checks.due("setCapacity(0, 1, " + value + ")", x.setCapacity(0, 1, value), value - 1);
            checks.due("count(2)", x.count(2), Math.min(value, 40));
        }
        for (int left = 39; left >= 0; left--) {
            checks.due("undo()", x.undo(), left);
            checks.due("capacity(0, 1)", x.capacity(0, 1), left + 3);
        }
        checks.due("undo()", x.undo(), -5);
        checks.due("capacity(0, 1)", x.capacity(0, 1), 3);
    }

    private static void undoAfterTheListHasTurned() {
        CutTreeKeeper x = new CutTreeKeeper();
        for (int value = 1; value <= 60; value++) {
            x.setCapacity(value % 2 == 0 ? 0 : 2, value % 2 == 0 ? 1 : 3, value);
        }
        for (int k = 0; k < 30; k++) {
            x.undo();
        }
        checks.due("count(2)", x.count(2), 10);
        for (int value = 101; value <= 125; value++) {
            x.setCapacity(1, 2, value);
        }
        checks.due("count(2)", x.count(2), 35);
        for (int k = 0; k < 25; k++) {
            x.undo();
        }
        checks.due("capacity(1, 2)", x.capacity(1, 2), 0);
        checks.due("capacity(0, 1)", x.capacity(0, 1), 30);
        checks.due("capacity(2, 3)", x.capacity(2, 3), 29);
        for (int left = 9; left >= 0; left--) {
            checks.due("undo()", x.undo(), left);
        }
        checks.due("capacity(0, 1)", x.capacity(0, 1), 20);
        checks.due("capacity(2, 3)", x.capacity(2, 3), 19);
        checks.due("undo()", x.undo(), -5);
    }

    private static void capacity() {
        CutTreeKeeper x = new CutTreeKeeper();
        x.reset(12);
        x.setCapacity(0, 11, 12);
        checks.due("capacity(0, 11)", x.capacity(0, 11), 12);
        checks.due("capacity(11, 0)", x.capacity(11, 0), 12);
        checks.due("capacity(1, 0)", x.capacity(1, 0), 0);
        checks.due("capacity(12, 0)", x.capacity(12, 0), -1);
        checks.due("capacity(0, 12)", x.capacity(0, 12), -1);
        checks.due("capacity(-1, 0)", x.capacity(-1, 0), -1);
        checks.due("capacity(0, -1)", x.capacity(0, -1), -1);
        checks.due("capacity(HIGHEST, HIGHEST)", x.capacity(HIGHEST, HIGHEST), -1);
        checks.due("capacity(LOWEST, LOWEST)", x.capacity(LOWEST, LOWEST), -1);
        checks.due("capacity(12, 12)", x.capacity(12, 12), -1);
        checks.due("capacity(11, 11)", x.capacity(11, 11), -2);
    }

    private static void count() {
        CutTreeKeeper x = new CutTreeKeeper();
        x.setCapacity(0, 1, 5);
        x.setCapacity(1, 0, 6);
        x.setCapacity(2, 3, 1);
        x.setCapacity(1, 3, 0);
        checks.due("count(0)", x.count(0), 4);
        checks.due("count(1)", x.count(1), 2);
        checks.due("count(2)", x.count(2), 4);
        checks.due("count(3)", x.count(3), 0);
        x.build();
        checks.due("count(3)", x.count(3), 3);
        x.setCapacity(2, 3, 0);
        checks.due("count(1)", x.count(1), 1);
        x.build();
        checks.due("count(3)", x.count(3), 6);
        for (int what : new int[] {-1, 4, LOWEST, HIGHEST}) {
            checks.due("count(" + what + ")", x.count(what), -3);
        }
    }

    private static void cutWeight() {
        CutTreeKeeper x = new CutTreeKeeper();
        x.setCapacity(0, 1, 1);
        x.setCapacity(0, 2, 10);
        x.setCapacity(1, 2, 100);
        x.setCapacity(2, 3, 500);
        checks.due("cutWeight(1)", x.cutWeight(1), 11);
        checks.due("cutWeight(14)", x.cutWeight(14), 11);
        checks.due("cutWeight(8)", x.cutWeight(8), 500);
        checks.due("cutWeight(3)", x.cutWeight(3), 110);
        checks.due("cutWeight(4)", x.cutWeight(4), 610);
        checks.due("cutWeight(9)", x.cutWeight(9), 511);
        x.reset(12);
        for (int u = 0; u < 12; u++) {
            for (int v = u + 1; v < 12; v++) {
                x.setCapacity(u, v, 999);
            }
        }
        checks.due("count(1) of the fullest graph", x.count(1), 66);
        checks.due("count(2) of the fullest graph", x.count(2), 40);
        checks.due("cutWeight(63)", x.cutWeight(63), 36 * 999);
        checks.due("cutWeight(2048)", x.cutWeight(2048), 11 * 999);
    }

    private static void cutWeightRefuses() {
        CutTreeKeeper x = new CutTreeKeeper();
        for (int set : new int[] {0, 15, 16, 17, -1, -2, LOWEST, HIGHEST}) {
            checks.due("cutWeight(" + set + ")", x.cutWeight(set), -3);
        }
        checks.due("cutWeight(14)", x.cutWeight(14), 0);
        x.reset(2);
        checks.due("cutWeight(2)", x.cutWeight(2), 0);
        checks.due("cutWeight(3)", x.cutWeight(3), -3);
        checks.due("cutWeight(4)", x.cutWeight(4), -3);
    }
}
