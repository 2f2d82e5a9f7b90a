/** Promise 1: a new object. */
public final class NewRoomTest {
    public static void main(String[] args) {
        Script script = new Script();
        script.run("promise 1: a new room holds no films, shows and breaks", """
            filmLength(0) = 0; filmLength(1) = 0; filmLength(2) = 0; filmLength(3) = 0
            removeShow(0) = -1; startOf(0, 0) = -1; endOf(0) = -1; delayOf(0) = -1; gapOf(0) = -1
            loss() = 0; carriedReels() = 0; plateChanges() = 0
            leastShift(0) = -1; removalGain(0) = -1000000; bestHomes() = 0
            missingMachines(0) = 0; missingMachines(1) = 0
            undo() = NOT_POSSIBLE
            removeReels(0) = 0; removeReels(1) = 0; removeReels(2) = 0; removeReels(3) = 0; clearBreaks() = 0
            """);
        script.run("promise 1: a new room has its machines, its carrier, its homes and its durations", """
            houseOf(0) = 0; houseOf(1) = 0; houseOf(2) = 1; houseOf(3) = -1
            machineTime(0) = 0; machineTime(1) = 0; machineTime(2) = 0; machineTime(3) = -1
            setCarriers(1) = 1
            setHome(0, 0) = 0; setHome(1, 0) = 0; setHome(2, 0) = 0; setHome(3, 0) = 0
            setDuration(THREADING, 0) = 3; setDuration(PLATE, 0) = 2
            setDuration(REWINDING, 0) = 4; setDuration(CARRYING, 1) = 10
            """);
        script.run("promise 1: the constants", """
            addReel(0, 0, 0) = -1; addShow(0, 0, 0) = -2
            addMachine(0) = 3; addMachine(0) = 4; addMachine(0) = -3
            removeMachine(2) = 4
            addReel(0, 1, 0) = 1; addShow(1, 0, 0) = 0; endOf(0) = -4
            setDuration(0, 10) = 3; setDuration(1, 9) = 2; setDuration(2, 15) = 4; setDuration(3, 30) = 10
            """);
        roomsAreApart();
        script.close();
    }

    private static void roomsAreApart() {
        ProjectionRoom one = new ProjectionRoom();
        ProjectionRoom other = new ProjectionRoom();
        one.addReel(0, 10, 0);
        one.addShow(0, 0, 0);
        one.setDuration(ProjectionRoom.THREADING, 9);
        other.addMachine(1);
        if (other.filmLength(0) != 0 || other.loss() != 0 || one.houseOf(3) != -1 || one.loss() != 9
                || other.setDuration(ProjectionRoom.THREADING, 0) != 3 || other.undo() != 1) {
            System.out.println("two rooms share something");
            System.exit(1);
        }
    }
}
