import java.lang.management.ManagementFactory;

/** All calls live in one room: after the constructor, no call makes an object. */
public final class RoomTest {
    private static final Checks checks = new Checks();

    public static void main(String[] args) {
        // The first runs load classes, which makes objects of the machine's own.
        for (int k = 0; k < 5; k++) {
            bytesOfRun();
        }
        long bytes = bytesOfRun();
        checks.holds("a run of 512 calls makes " + bytes + " bytes, under 20000", bytes < 20000);
        checks.end();
    }

    private static long bytesOfRun() {
        long before = madeSoFar();
        CutTreeKeeper x = new CutTreeKeeper();
        x.reset(12);
        for (int k = 0; k < 66; k++) {
            x.setCapacity(k % 12, (k + 1 + k / 12) % 12, 1 + k * 37 % 999);
        }
        for (int k = 0; k < 40; k++) {
            x.setCapacity(k % 12, (k + 5) % 12, k * 61 % 1000);
            x.build();
            x.minimumCut(k % 12, (k + 7) % 12);
            x.witness(k % 12, (k + 3) % 12);
            x.isAtLeast(k % 12, (k + 2) % 12, 900);
            x.lightCut(k % 12);
            x.classCount(700);
            x.classOf(k % 12, 700);
            x.partner(k % 12);
            x.leastAcross(1 + k);
            x.undo();
        }
        x.reset(2);
        return madeSoFar() - before;
    }

    private static long madeSoFar() {
        return ((com.sun.management.ThreadMXBean) ManagementFactory.getThreadMXBean())
            .getThreadAllocatedBytes(Thread.currentThread().getId());
    }
}
