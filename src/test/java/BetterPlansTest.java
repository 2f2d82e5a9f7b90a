/** Promises 25 to 28: leastShift, removalGain, bestHomes, missingMachines. */
public final class BetterPlansTest {
    public static void main(String[] args) {
        Script script = new Script();
        leastShift(script);
        removalGain(script);
        bestHomes(script);
        missingMachines(script);
        script.close();
    }

    private static void leastShift(Script script) {
        script.run("promise 25: the least shift", """
            addReel(0, 10, 0) = 1; addShow(0, 0, 0) = 0; leastShift(0) = 3
            moveShow(0, 2) = 0; leastShift(0) = 1; moveShow(0, 3) = 2; leastShift(0) = 0
            startOf(0, 0) = 3; loss() = 0; undo() = 3   // the show itself is not moved, and nothing is an edit
            """);
        script.run("promise 25: up to 180 minutes, and past the other show", """
            addReel(0, 10, 0) = 1; addShow(0, 0, 3) = 0; addShow(0, 0, 20) = 1; leastShift(0) = 0; leastShift(1) = 0
            addBreak(0, 0, 60) = 1; addBreak(0, 0, 60) = 2; addBreak(0, 0, 60) = 3
            leastShift(1) = 180              // the reel is ready at 197
            leastShift(0) = 34               // behind the other show: ready at 34
            moveShow(1, 19) = 20; leastShift(1) = NOT_FOUND; leastShift(0) = 33
            """);
        script.run("promise 25: the planned start stays at most 1439", """
            addReel(0, 10, 0) = 1; addShow(0, 0, 1400) = 0; addShow(0, 0, 1430) = 1
            addBreak(0, 0, 22) = 1; leastShift(1) = 9
            addBreak(0, 0, 1) = 2; leastShift(1) = NOT_FOUND
            moveShow(1, 1439) = 1430; leastShift(1) = NOT_FOUND
            clearBreaks() = 2; leastShift(1) = 0
            """);
        script.run("promise 25: gaps and other shows that no shift mends", """
            setHome(0, 1) = 0; addReel(0, 10, 0) = 1; addReel(0, 10, 0) = 2; addShow(1, 0, 50) = 0
            leastShift(0) = NOT_FOUND                          // one machine threads in between
            addMachine(1) = 3; leastShift(0) = 0
            addReel(1, 10, 0) = 1; addShow(0, 1, 1) = 1; leastShift(0) = NOT_FOUND; leastShift(1) = 2
            removeMachine(0) = 3; removeMachine(0) = 2; leastShift(0) = NOT_FOUND; leastShift(1) = NOT_FOUND
            """);
        script.run("promise 25: arguments out of range", """
            leastShift(0) = -1; addReel(0, 10, 0) = 1; addShow(0, 0, 0) = 0
            leastShift(-1) = -1; leastShift(1) = -1; leastShift(MIN) = -1; leastShift(MAX) = -1
            """);
    }

    private static void removalGain(Script script) {
        script.run("promise 26: the loss less the loss without the show", """
            addReel(0, 10, 0) = 1; addShow(0, 0, 3) = 0; addShow(0, 0, 10) = 1; loss() = 10
            removalGain(0) = 10; removalGain(1) = 10; addShow(1, 0, 1) = 2; loss() = 96
            removalGain(0) = 54; removalGain(1) = 47; removalGain(2) = 86
            loss() = 96; delayOf(2) = 12; undo() = 3; loss() = 10
            """);
        script.run("promise 26: the breaks go with the show or follow theirs", """
            addReel(0, 10, 0) = 1; addReel(1, 5, 0) = 1; addShow(0, 1, 500) = 0
            addShow(0, 0, 3) = 1; addShow(0, 0, 10) = 2; addBreak(1, 0, 5) = 1; addBreak(0, 0, 60) = 2; loss() = 15
            removalGain(0) = 0; removalGain(1) = 15; removalGain(2) = 15; addBreak(1, 0, 1) = 3; loss() = 16
            """);
        script.run("promise 26: a show may do good to the others", """
            addReel(0, 12, 0) = 1; addReel(0, 9, 0) = 2; addReel(1, 5, 0) = 1
            addShow(0, 0, 57) = 0; addShow(1, 0, 26) = 1; addShow(0, 1, 59) = 2; loss() = 9
            removalGain(1) = -4   // without it, the second reel takes the other machine too early for show 2
            removeShow(1) = 2; loss() = 13; delayOf(1) = 13
            """);
        script.run("promise 26: a show that does not take place", """
            removeMachine(2) = 2; addReel(0, 10, 0) = 1; addShow(1, 0, 3) = 0; addShow(0, 0, 1) = 1
            loss() = 1002; removalGain(0) = 1000; removalGain(1) = 2
            """);
        script.run("promise 26: arguments out of range", """
            removalGain(0) = -1000000; addReel(0, 10, 0) = 1; addShow(0, 0, 3) = 0; removalGain(0) = 0
            removalGain(-1) = -1000000; removalGain(1) = -1000000
            removalGain(MIN) = -1000000; removalGain(MAX) = -1000000
            """);
    }

    private static void bestHomes(Script script) {
        script.run("promise 27: a bit for each film", """
            setDuration(THREADING, 0) = 3
            addReel(0, 5, 0) = 1; addReel(1, 5, 0) = 1; addReel(2, 5, 0) = 1; addReel(3, 5, 0) = 1
            bestHomes() = 0
            addShow(1, 0, 0) = 0; bestHomes() = 1
            addShow(1, 3, 5) = 1; bestHomes() = 9
            addShow(0, 1, 0) = 2; bestHomes() = 9
            setHome(1, 1) = 0; setHome(2, 1) = 0; setHome(0, 1) = 0; bestHomes() = 9
            loss() = 35; carriedReels() = 2     // the homes are as they were
            setHome(0, 0) = 1; setHome(1, 0) = 1; setHome(2, 0) = 1; setHome(3, 0) = 0
            """);
        script.run("promise 27: each film by itself", """
            setDuration(THREADING, 0) = 3; addReel(2, 5, 0) = 1; addReel(3, 5, 0) = 1; addReel(1, 5, 0) = 1
            addShow(1, 2, 0) = 0; bestHomes() = 4; removeShow(0) = 0
            addShow(1, 3, 0) = 0; bestHomes() = 8; removeShow(0) = 0
            addShow(1, 1, 0) = 0; bestHomes() = 2; addShow(1, 2, 5) = 1; addShow(1, 3, 10) = 2; bestHomes() = 6
            moveShow(2, 9) = 10; bestHomes() = 6   // film 3 is carried in time or waits for the machine
            """);
        script.run("promise 27: of several sets the lowest mask", """
            addReel(0, 5, 0) = 1; setHome(0, 1) = 0; bestHomes() = 0
            addShow(1, 0, 13) = 0; bestHomes() = 0; moveShow(0, 12) = 13; bestHomes() = 1
            removeMachine(2) = 2; bestHomes() = 0
            """);
        script.run("promise 27: the first show wins the print, though the second has to wait for it", """
            addReel(0, 10, 0) = 1; addShow(1, 0, 5) = 0; addShow(0, 0, 20) = 1
            bestHomes() = 1; loss() = 28; setHome(0, 1) = 0; loss() = 12; bestHomes() = 1
            """);
    }

    private static void missingMachines(Script script) {
        script.run("promise 28: the machines of one house", """
            missingMachines(0) = 0; missingMachines(1) = 0
            setHome(0, 1) = 0; addReel(0, 10, 0) = 1; addReel(0, 10, 0) = 2; addShow(1, 0, 3) = 0
            missingMachines(1) = 1; missingMachines(0) = NOT_FOUND
            removeMachine(2) = 2; missingMachines(1) = 2; missingMachines(0) = NOT_FOUND
            addMachine(0) = 2; addMachine(0) = 3; missingMachines(1) = NOT_FOUND   // only one more fits
            houseOf(4) = -1; loss() = 1000
            removeMachine(0) = 3; missingMachines(1) = 2; addMachine(1) = 3; missingMachines(1) = 1
            addMachine(1) = 4; missingMachines(1) = 0; missingMachines(0) = 0
            """);
        script.run("promise 28: five machines", """
            removeMachine(0) = 2; removeMachine(0) = 1; removeMachine(0) = 0
            missingMachines(0) = 0
            addReel(0, 5, 0) = 1; addReel(0, 5, 0) = 2
            addReel(1, 30, 0) = 1; addReel(2, 30, 0) = 1; addReel(3, 30, 0) = 1
            addShow(0, 0, 3) = 0; missingMachines(0) = 2
            addShow(0, 1, 3) = 1; missingMachines(0) = 3
            addShow(0, 2, 3) = 2; missingMachines(0) = 4
            addShow(0, 3, 3) = 3; missingMachines(0) = 5; missingMachines(1) = NOT_FOUND
            addMachine(1) = 0; missingMachines(0) = NOT_FOUND
            """);
        script.run("promise 28: what no machine mends", """
            addReel(0, 10, 0) = 1; addShow(0, 0, 2) = 0
            missingMachines(0) = NOT_FOUND; missingMachines(1) = NOT_FOUND
            setDuration(THREADING, 2) = 3; missingMachines(0) = 0; missingMachines(1) = 0
            """);
        script.run("promise 28: arguments out of range", """
            missingMachines(-1) = -1; missingMachines(2) = -1; missingMachines(MIN) = -1; missingMachines(MAX) = -1
            addMachine(0) = 3; addMachine(0) = 4; missingMachines(2) = -1; missingMachines(1) = 0
            """);
    }
}
