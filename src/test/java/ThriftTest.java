import java.lang.management.ManagementFactory;

/** Rule 12 of LANGUAGE.md: what is made is made with the room, it is little, and the calls make no objects. */
public final class ThriftTest {
    private static final int ROUNDS = 200;
    // A round is some 500 calls: one object a call would be 8,000 bytes a round at the least.
    private static final long MOST_BYTES_OF_ROUND = 1000;
    // Some 110 objects with 1,100 fields and elements in all; a run of calls may make many rooms.
    private static final long MOST_BYTES_OF_ROOM = 10000;

    private static final Dues DUES = new Dues();

    public static void main(String[] args) {
        ProjectionRoom room = new ProjectionRoom();
        int sum = callAll(room);
        long before = bytesMade();
        for (int i = 0; i < ROUNDS; i++) {
            sum += callAll(room);
        }
        long ofRound = (bytesMade() - before) / ROUNDS;
        DUES.due("a round of calls makes next to nothing: " + ofRound, ofRound <= MOST_BYTES_OF_ROUND);
        before = bytesMade();
        for (int i = 0; i < ROUNDS; i++) {
            sum += new ProjectionRoom().addMachine(0);
        }
        long ofRoom = (bytesMade() - before) / ROUNDS;
        DUES.due("a room is small: " + ofRoom, ofRoom <= MOST_BYTES_OF_ROOM);
        DUES.close(ofRound + " bytes for a round of calls, " + ofRoom + " for a room (" + sum + ")");
    }

    private static long bytesMade() {
        var threads = (com.sun.management.ThreadMXBean) ManagementFactory.getThreadMXBean();
        return threads.getThreadAllocatedBytes(Thread.currentThread().getId());
    }

    private static int callAll(ProjectionRoom room) {
        int sum = 0;
        for (int i = 0; i < 12; i++) {
            sum += room.addReel(i % 4, 5 + i, i % 3) + room.setHome(i % 4, i % 2) + room.addMachine(i % 2)
                    + room.setCarriers(1 + i % 3) + room.setDuration(i % 4, 1 + i % 10) + room.addShow(i % 2, i % 4, i * 20)
                    + room.moveShow(i % 6, i * 30) + room.addBreak(i % 6, 0, 1 + i);
            for (int show = 0; show < 6; show++) {
                sum += room.startOf(show, 0) + room.machineOf(show, 1) + room.endOf(show) + room.delayOf(show)
                        + room.gapOf(show) + room.leastShift(show) + room.removalGain(show);
            }
            sum += room.loss() + room.carriedReels() + room.plateChanges() + room.machineTime(i % 5) + room.houseOf(i % 5)
                    + room.bestHomes() + room.missingMachines(i % 2) + room.filmLength(i % 4) + room.undo();
        }
        for (int i = 0; i < 6; i++) {
            sum += room.removeShow(0) + room.removeMachine(4) + room.removeReels(i % 4) + room.clearBreaks();
        }
        return sum;
    }
}
