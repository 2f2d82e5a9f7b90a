/** Promise 29: undo, and which calls are edits. */
public final class UndoTest {
    public static void main(String[] args) {
        Script script = new Script();
        theLastFive(script);
        eachEdit(script);
        whatIsNoEdit(script);
        script.close();
    }

    private static void theLastFive(Script script) {
        script.run("promise 29: five edits and no more", """
            undo() = NOT_POSSIBLE
            addReel(0, 1, 0) = 1; addReel(0, 2, 0) = 2; addReel(0, 3, 0) = 3; addReel(0, 4, 0) = 4
            addReel(0, 5, 0) = 5; addReel(0, 6, 0) = 6; filmLength(0) = 21
            undo() = 4; filmLength(0) = 15; undo() = 3; filmLength(0) = 10; undo() = 2; filmLength(0) = 6
            undo() = 1; filmLength(0) = 3; undo() = 0; filmLength(0) = 1
            undo() = NOT_POSSIBLE; filmLength(0) = 1; undo() = NOT_POSSIBLE
            """);
        script.run("promise 29: an edit after an undo", """
            addReel(0, 1, 0) = 1; addReel(0, 2, 0) = 2; addReel(0, 3, 0) = 3
            undo() = 2; undo() = 1; filmLength(0) = 1
            addReel(0, 9, 0) = 2; filmLength(0) = 10; undo() = 1; filmLength(0) = 1; undo() = 0; filmLength(0) = 0
            undo() = -2; addReel(1, 4, 0) = 1; undo() = 0; filmLength(1) = 0
            """);
        script.run("promise 29: an edit after an undo, with the five full", """
            setCarriers(2) = 1; setCarriers(3) = 2; setCarriers(1) = 3; setCarriers(2) = 1
            setCarriers(3) = 2; setCarriers(1) = 3; setCarriers(2) = 1
            undo() = 4; undo() = 3; setCarriers(2) = 3; setCarriers(1) = 2
            undo() = 4; undo() = 3; undo() = 2; undo() = 1; undo() = 0; undo() = -2
            setCarriers(1) = 3
            """);
    }

    private static void eachEdit(Script script) {
        script.run("promise 29: addReel, setHome, removeReels", """
            addReel(0, 10, 1) = 1; setHome(0, 1) = 0; removeReels(0) = 1
            undo() = 2; filmLength(0) = 10; undo() = 1; undo() = 0; filmLength(0) = 0; setHome(0, 1) = 0
            """);
        script.run("promise 29: removeReels, and other reels after it", """
            addReel(0, 10, 1) = 1; addReel(0, 5, 0) = 2; addReel(1, 1, 0) = 1; addShow(0, 1, 0) = 0
            removeReels(0) = 2; addReel(0, 30, 2) = 1; undo() = 4; undo() = 3
            filmLength(0) = 15; addShow(0, 0, 100) = 1; plateChanges() = 1; endOf(1) = 115
            """);
        script.run("promise 29: the aspects of the reels come back", """
            removeMachine(1) = 2; addReel(1, 10, 1) = 1; addReel(0, 10, 1) = 1
            removeReels(0) = 1; addReel(0, 10, 2) = 1; undo() = 4; undo() = 3
            addShow(0, 0, 10) = 0; addShow(0, 1, 20) = 1; startOf(1, 0) = 23; plateChanges() = 0
            """);
        script.run("promise 29: addMachine, removeMachine", """
            addMachine(1) = 3; removeMachine(0) = 3; houseOf(1) = 1; houseOf(2) = 1
            undo() = 1; houseOf(0) = 0; houseOf(1) = 0; houseOf(2) = 1; houseOf(3) = 1
            undo() = 0; houseOf(3) = -1; houseOf(2) = 1
            """);
        script.run("promise 29: setCarriers, setDuration", """
            setCarriers(3) = 1; setDuration(0, 9) = 3; setDuration(3, 9) = 10; setDuration(1, 9) = 2; setDuration(2, 9) = 4
            undo() = 4; undo() = 3; undo() = 2; undo() = 1; undo() = 0
            setCarriers(1) = 1; setDuration(0, 1) = 3; setDuration(1, 1) = 2; setDuration(2, 1) = 4; setDuration(3, 1) = 10
            """);
        script.run("promise 29: addShow, moveShow, removeShow and the numbers of shows", """
            addReel(0, 10, 0) = 1; addReel(1, 20, 0) = 1
            addShow(0, 0, 100) = 0; addShow(1, 1, 200) = 1; moveShow(0, 300) = 100; startOf(0, 0) = 300
            undo() = 4; startOf(0, 0) = 100
            removeShow(0) = 1; startOf(0, 0) = 200; undo() = 4
            startOf(0, 0) = 100; startOf(1, 0) = 200; machineOf(1, 0) = 2; endOf(1) = 220
            undo() = 3; startOf(1, 0) = -1; undo() = 2; startOf(0, 0) = -1
            """);
        script.run("promise 29: addBreak, clearBreaks, and the breaks of a removed show", """
            addReel(0, 10, 0) = 1; addShow(0, 0, 100) = 0; addShow(0, 0, 200) = 1
            addBreak(0, 0, 5) = 1; addBreak(1, 0, 6) = 2; endOf(0) = 115; endOf(1) = 216
            clearBreaks() = 2; endOf(0) = 110; undo() = 4; endOf(0) = 115; endOf(1) = 216
            removeShow(0) = 1; endOf(0) = 216; undo() = 4; endOf(0) = 115; endOf(1) = 216
            undo() = 3; endOf(1) = 210; undo() = 2; endOf(0) = 110; clearBreaks() = 0
            """);
        script.run("promise 29: the reels and repair times of the breaks come back", """
            addReel(0, 10, 0) = 1; addReel(0, 10, 0) = 2; addShow(0, 0, 100) = 0; addShow(0, 0, 200) = 1
            addBreak(0, 0, 5) = 1; addBreak(1, 1, 6) = 2; removeShow(0) = 1; startOf(0, 1) = 210; endOf(0) = 226
            undo() = 4; startOf(0, 1) = 115; endOf(0) = 125; startOf(1, 1) = 210; endOf(1) = 226
            """);
        script.run("promise 29: edits that change nothing", """
            setHome(0, 0) = 0; setCarriers(1) = 1; setDuration(0, 3) = 3; removeReels(0) = 0; clearBreaks() = 0
            undo() = 4; undo() = 3; undo() = 2; undo() = 1; undo() = 0; undo() = -2
            addReel(0, 5, 0) = 1; addShow(0, 0, 7) = 0; moveShow(0, 7) = 7
            undo() = 2; endOf(0) = 12; undo() = 1; endOf(0) = -1
            """);
    }

    private static void whatIsNoEdit(Script script) {
        script.run("promise 29: questions are no edits", """
            addReel(0, 10, 0) = 1; addShow(0, 0, 0) = 0
            filmLength(0) = 10; houseOf(0) = 0; startOf(0, 0) = 3; machineOf(0, 0) = 0; endOf(0) = 13
            delayOf(0) = 3; gapOf(0) = 0; loss() = 3; carriedReels() = 0; plateChanges() = 0; machineTime(0) = 10
            leastShift(0) = 3; removalGain(0) = 3; bestHomes() = 0; missingMachines(0) = -4; missingMachines(1) = -4
            undo() = 1; undo() = 0; undo() = -2
            """);
        script.run("promise 29: errors are no edits", """
            addReel(0, 10, 0) = 1; addShow(0, 0, 0) = 0
            addReel(4, 1, 1) = -1; removeReels(0) = -2; removeReels(4) = -1; setHome(0, 2) = -1; addMachine(2) = -1
            removeMachine(3) = -1; setCarriers(0) = -1; setDuration(0, 11) = -1; setDuration(4, 1) = -1
            addShow(0, 1, 0) = -2; addShow(0, 0, 1440) = -1; removeShow(1) = -1; moveShow(0, 1440) = -1
            addBreak(0, 0, 61) = -1; undo() = 1; undo() = 0; undo() = -2
            """);
    }
}
