import java.lang.management.ManagementFactory;

/** Rule 12 of LANGUAGE.md: what is made is made with the room, and the calls make no objects. */
public final class ThriftTest {
    private static final int ROUNDS = 200;
    // A round is some 500 calls: one object a call would be 8,000 bytes a round at the least.
    private static final long MOST_BYTES = ROUNDS * 1000L;

    public static void main(String[] args) {
        var threads = (com.sun.management.ThreadMXBean) ManagementFactory.getThreadMXBean();
        long thread = Thread.currentThread().getId();
        ProjectionRoom room = new ProjectionRoom();
        callAll(room);
        long before = threads.getThreadAllocatedBytes(thread);
        int sum = 0;
        for (int i = 0; i < ROUNDS; i++) {
            sum += callAll(room);
        }
        long made = threads.getThreadAllocatedBytes(thread) - before;
        System.out.println(made + " bytes made in " + ROUNDS + " rounds (" + sum + ")");
        if (made > MOST_BYTES) {
            System.exit(1);
        }
    }

    private static int callAll(ProjectionRoom room) {
        int sum = 0;
        for (int i = 0; i < 12; i++) {
            sum += room.addReel(i % 4, 5 + i, i % 3) + room.setHome(i % 4, i % 2) + room.addMachine(i % 2)
                    + room.setCarriers(1 + i % 3) + room.setDuration(i % 4, 1 + i % 10) + room.addShow(i % 2, i % 4, i * 20)
                    + room.moveShow(i % 6, i * 30) + room.addBreak(i % 6, 0, 1 + i);
            for (int show = 0; show < 6; show++) {
                sum += room.startOf(show, 0) + room.machineOf(show, 1) + room.endOf(show) + room.delayOf(show)
                        + room.gapOf(show) + room.leastShift(show) + room.removalGain(show);
            }
            sum += room.loss() + room.carriedReels() + room.plateChanges() + room.machineTime(i % 5) + room.houseOf(i % 5)
                    + room.bestHomes() + room.missingMachines(i % 2) + room.filmLength(i % 4) + room.undo();
        }
        for (int i = 0; i < 6; i++) {
            sum += room.removeShow(0) + room.removeMachine(4) + room.removeReels(i % 4) + room.clearBreaks();
        }
        return sum;
    }
}
