/** Promises 16 to 24: startOf, machineOf, endOf, delayOf, gapOf, loss, carriedReels, plateChanges, machineTime. */
public final class PlanTest {
    public static void main(String[] args) {
        Script script = new Script();
        changeovers(script);
        plates(script);
        rewinding(script);
        carrying(script);
        noMachine(script);
        sums(script);
        freshAnswers(script);
        wrongArguments(script);
        script.close();
    }

    private static void changeovers(Script script) {
        script.run("promises 16 to 18: of several machines the first one that can start, then the lowest number", """
            addReel(0, 10, 0) = 1; addReel(0, 12, 0) = 2; addReel(0, 8, 0) = 3; addReel(0, 2, 0) = 4
            addReel(0, 9, 0) = 5; addReel(0, 9, 0) = 6
            addShow(0, 0, 3) = 0
            startOf(0, 0) = 3; machineOf(0, 0) = 0
            startOf(0, 1) = 13; machineOf(0, 1) = 1
            startOf(0, 2) = 25; machineOf(0, 2) = 0
            startOf(0, 3) = 33; machineOf(0, 3) = 1   // 25 + 3 is before 33
            startOf(0, 4) = 36; machineOf(0, 4) = 0   // machine 0 has been free since 33: 36; machine 1 from 38
            startOf(0, 5) = 45; machineOf(0, 5) = 1
            endOf(0) = 54; delayOf(0) = 0; gapOf(0) = 1; loss() = 1
            """);
        script.run("promises 16 and 17: a machine of the other house is not taken", """
            setHome(0, 1) = 0; addReel(0, 10, 0) = 1; addReel(0, 10, 0) = 2; addReel(0, 10, 0) = 3
            addShow(1, 0, 5) = 0
            machineOf(0, 0) = 2; machineOf(0, 1) = 2; machineOf(0, 2) = 2
            startOf(0, 0) = 5; startOf(0, 1) = 18; startOf(0, 2) = 31; gapOf(0) = 6
            addMachine(0) = 3; addMachine(1) = 4; machineOf(0, 1) = 4; machineOf(0, 2) = 2; gapOf(0) = 0
            removeMachine(0) = 4; machineOf(0, 0) = 1; machineOf(0, 1) = 3; machineOf(0, 2) = 1
            """);
        script.run("promise 16: shows of several films share the machines of a house", """
            addReel(0, 30, 0) = 1; addReel(1, 20, 0) = 1; addReel(2, 5, 0) = 1
            addShow(0, 0, 10) = 0; addShow(0, 1, 11) = 1; addShow(0, 2, 12) = 2
            machineOf(0, 0) = 0; machineOf(1, 0) = 1; machineOf(2, 0) = 1
            startOf(2, 0) = 34; delayOf(2) = 22; delayOf(1) = 0; loss() = 22
            moveShow(2, 9) = 12; machineOf(2, 0) = 0; machineOf(0, 0) = 1; machineOf(1, 0) = 0
            startOf(2, 0) = 9; startOf(0, 0) = 10; startOf(1, 0) = 17; loss() = 6
            """);
        script.run("promise 17: the first one that can start stands between two others", """
            addMachine(0) = 3; removeMachine(2) = 3
            addReel(0, 30, 0) = 1; addReel(1, 10, 0) = 1; addReel(2, 20, 0) = 1; addReel(3, 5, 0) = 1
            addShow(0, 0, 10) = 0; addShow(0, 1, 11) = 1; addShow(0, 2, 12) = 2; addShow(0, 3, 13) = 3
            machineOf(3, 0) = 1; startOf(3, 0) = 24   // 43 on machine 0, 24 on machine 1, 35 on machine 2
            """);
    }

    private static void plates(Script script) {
        script.run("promises 17 and 23: a machine with the right plate may start first", """
            addReel(0, 10, 0) = 1; addReel(0, 9, 1) = 2; addReel(0, 7, 1) = 3; addShow(0, 0, 3) = 0
            setDuration(PLATE, 10) = 2   // machine 0: 13 + 10 + 3; machine 1: 22 + 3
            startOf(0, 2) = 25; machineOf(0, 2) = 1; plateChanges() = 0
            setDuration(PLATE, 9) = 10   // 25 on both
            startOf(0, 2) = 25; machineOf(0, 2) = 0; plateChanges() = 1
            setDuration(PLATE, 8) = 9
            startOf(0, 2) = 24; machineOf(0, 2) = 0; plateChanges() = 1
            setDuration(PLATE, 0) = 8    // a plate change even so
            startOf(0, 2) = 22; machineOf(0, 2) = 0; plateChanges() = 1
            """);
        script.run("promise 23: none for the first reel of a machine, none for the same aspect", """
            setHome(0, 1) = 0; addReel(0, 10, 2) = 1; addShow(1, 0, 5) = 0; plateChanges() = 0
            addReel(0, 10, 2) = 2; plateChanges() = 0; startOf(0, 1) = 18
            addReel(0, 10, 0) = 3; plateChanges() = 1; startOf(0, 2) = 33
            addReel(0, 10, 2) = 4; plateChanges() = 2; startOf(0, 3) = 48
            addReel(0, 10, 1) = 5; plateChanges() = 3; addReel(0, 10, 1) = 6; plateChanges() = 3
            gapOf(0) = 21; loss() = 21
            """);
        script.run("promise 23: a machine keeps its plate from show to show", """
            addReel(0, 10, 0) = 1; addReel(1, 10, 1) = 1; removeMachine(1) = 2
            addShow(0, 0, 10) = 0; addShow(0, 1, 20) = 1; addShow(0, 0, 500) = 2; addShow(0, 0, 600) = 3
            startOf(1, 0) = 25; plateChanges() = 2
            moveShow(1, 700) = 20; plateChanges() = 1
            """);
        script.run("promise 16: the plate is changed while the reel is on its way, the threading is not", """
            setHome(1, 1) = 0; addReel(0, 10, 0) = 1; addReel(1, 7, 1) = 1
            addShow(1, 1, 3) = 0; addShow(1, 0, 4) = 1
            startOf(1, 0) = 15                              // 10 + 2 + 3: the machine is the later one
            setDuration(CARRYING, 13) = 10; startOf(1, 0) = 16   // 13 + 3: the reel is
            setDuration(CARRYING, 12) = 13; startOf(1, 0) = 15
            setDuration(CARRYING, 11) = 12; startOf(1, 0) = 15
            """);
    }

    private static void rewinding(Script script) {
        script.run("promise 16: a reel is ready when it has been rewound", """
            addReel(0, 10, 0) = 1; addShow(0, 0, 5) = 0; addShow(0, 0, 6) = 1
            startOf(0, 0) = 5; endOf(0) = 15; startOf(1, 0) = 22; delayOf(1) = 16; machineOf(1, 0) = 0
            setDuration(REWINDING, 15) = 4; startOf(1, 0) = 33
            setDuration(REWINDING, 0) = 15; startOf(1, 0) = 18; machineOf(1, 0) = 0
            setDuration(PLATE, 10) = 2; startOf(1, 0) = 18
            """);
        script.run("promise 16: each reel is rewound by itself", """
            addReel(0, 10, 0) = 1; addReel(0, 20, 0) = 2; addShow(0, 0, 5) = 0; addShow(0, 0, 6) = 1
            startOf(1, 0) = 22; machineOf(1, 0) = 0
            startOf(1, 1) = 42; machineOf(1, 1) = 0; endOf(1) = 62   // 39 + 3 on both
            """);
    }

    private static void carrying(Script script) {
        script.run("promise 22: a reel stays where it has been carried", """
            addReel(0, 10, 0) = 1
            addShow(1, 0, 0) = 0; startOf(0, 0) = 13; carriedReels() = 1
            addShow(0, 0, 1) = 1; startOf(1, 0) = 40; carriedReels() = 2   // ready at 27
            addShow(1, 0, 2) = 2; startOf(2, 0) = 67; carriedReels() = 3   // ready at 54
            addShow(1, 0, 3) = 3; startOf(3, 0) = 84; carriedReels() = 3   // ready at 81
            """);
        script.run("promise 16: a carrier is free when he has come back", """
            addReel(0, 1, 0) = 1; addReel(1, 1, 0) = 1; addShow(1, 0, 0) = 0; addShow(1, 1, 0) = 1
            startOf(0, 0) = 13; startOf(1, 0) = 33
            setDuration(CARRYING, 1) = 10; startOf(0, 0) = 4; startOf(1, 0) = 8
            setDuration(CARRYING, 30) = 1; startOf(0, 0) = 33; startOf(1, 0) = 93
            """);
        script.run("promise 16: carried as early as it can be, not when it is due", """
            addReel(0, 10, 0) = 1; addReel(1, 10, 0) = 1; addShow(1, 0, 500) = 0; addShow(1, 1, 550) = 1
            delayOf(0) = 0; delayOf(1) = 0; carriedReels() = 2
            """);
        script.run("promise 16: of several carriers who could start at once the lowest number goes", """
            setCarriers(2) = 1; setDuration(THREADING, 0) = 3; setDuration(REWINDING, 0) = 4; addMachine(1) = 3
            addReel(0, 5, 0) = 1; addReel(1, 29, 0) = 1; addReel(2, 5, 0) = 1
            addShow(1, 0, 0) = 0; addShow(0, 1, 1) = 1; addShow(1, 1, 2) = 2; addShow(1, 2, 3) = 3
            startOf(0, 0) = 10; startOf(1, 0) = 1
            startOf(2, 0) = 40   // carrier 0 (free at 20) and carrier 1 (free at 0) could start at 30
            startOf(3, 0) = 10   // so carrier 1 is still free at 0
            machineOf(3, 0) = 3
            """);
        script.run("promise 16: the carrier who can start first goes", """
            setCarriers(3) = 1; addReel(0, 1, 0) = 1; addReel(0, 1, 0) = 2; addReel(0, 1, 0) = 3
            addReel(0, 1, 0) = 4; addReel(0, 1, 0) = 5
            addShow(1, 0, 100) = 0; startOf(0, 4) = 116; carriedReels() = 5
            moveShow(0, 0) = 100; startOf(0, 2) = 21; startOf(0, 3) = 33; startOf(0, 4) = 37
            """);
    }

    private static void noMachine(Script script) {
        script.run("promises 16 to 22: a show without a machine does not take place", """
            removeMachine(2) = 2; addReel(0, 10, 0) = 1; addReel(0, 10, 1) = 2
            addShow(1, 0, 0) = 0; addShow(0, 0, 5) = 1
            startOf(0, 0) = NOT_FOUND; machineOf(0, 1) = NOT_FOUND; endOf(0) = NOT_FOUND
            startOf(0, 2) = INVALID_ARGUMENT; machineOf(0, 2) = INVALID_ARGUMENT
            delayOf(0) = 0; gapOf(0) = 0; loss() = 1000
            carriedReels() = 0; startOf(1, 0) = 5; endOf(1) = 25; machineTime(0) = 10; machineTime(1) = 10
            addShow(1, 0, 1) = 2; loss() = 2000
            removeMachine(0) = 1; removeMachine(0) = 0; loss() = 3000; endOf(1) = NOT_FOUND; plateChanges() = 0
            addMachine(1) = 0; loss() = 1075; startOf(0, 0) = 13; startOf(0, 1) = 33
            delayOf(0) = 13; gapOf(0) = 10; delayOf(2) = 47; gapOf(2) = 5; delayOf(1) = 0
            removeMachine(0) = 0; delayOf(0) = 0; gapOf(0) = 0; loss() = 3000; machineTime(0) = -1
            """);
    }

    private static void sums(Script script) {
        script.run("promises 19 to 21: delays, gaps and the loss", """
            setHome(0, 1) = 0; addReel(0, 10, 0) = 1; addReel(0, 10, 1) = 2; addReel(0, 10, 1) = 3
            loss() = 0; addShow(1, 0, 0) = 0; delayOf(0) = 3; gapOf(0) = 8; loss() = 11
            addReel(1, 4, 2) = 1; addShow(0, 1, 1) = 1; delayOf(1) = 2; gapOf(1) = 0; loss() = 13
            addBreak(0, 1, 50) = 1; gapOf(0) = 8; loss() = 13
            """);
        script.run("promise 24: a machine runs for lengths and repairs", """
            addReel(0, 10, 0) = 1; addReel(0, 12, 0) = 2; addReel(0, 8, 1) = 3; addShow(0, 0, 5) = 0
            machineTime(0) = 18; machineTime(1) = 12; machineTime(2) = 0
            addBreak(0, 2, 7) = 1; machineTime(0) = 25; machineTime(1) = 12
            addShow(1, 0, 400) = 1; machineTime(2) = 30; machineTime(0) = 25
            removeShow(0) = 1; machineTime(0) = 0; machineTime(1) = 0; machineTime(2) = 30
            """);
    }

    private static void freshAnswers(Script script) {
        String edits = """
            addReel(0, 10, 0) = 1; addReel(0, 10, 1) = 2; setHome(1, 1) = 0; addReel(1, 10, 2) = 1
            addShow(1, 0, 0) = 0; addShow(1, 1, 5) = 1
            """;
        String[] questions = {"startOf(0, 1) = 33", "machineOf(0, 1) = 2", "endOf(0) = 43", "delayOf(0) = 13",
            "gapOf(0) = 10", "loss() = 66", "carriedReels() = 2", "plateChanges() = 2", "machineTime(2) = 30"};
        for (String question : questions) {
            script.run("promises 16 to 24: the first question after the edits", edits + question);
            script.run("promises 16 to 24: a question after one about another day",
                    edits + "removalGain(0) = 66; missingMachines(1) = -4; leastShift(0) = -4; " + question);
        }
    }

    private static void wrongArguments(Script script) {
        script.run("promises 16 to 20 and 24: arguments out of range", """
            addReel(0, 10, 0) = 1; addReel(1, 10, 0) = 1; addReel(1, 10, 0) = 2; addShow(0, 0, 5) = 0
            startOf(-1, 0) = -1; startOf(1, 0) = -1; startOf(MIN, 0) = -1; startOf(MAX, 0) = -1
            startOf(0, -1) = -1; startOf(0, 1) = -1; startOf(0, MIN) = -1; startOf(0, MAX) = -1
            machineOf(-1, 0) = -1; machineOf(1, 0) = -1; machineOf(MIN, 0) = -1; machineOf(MAX, 0) = -1
            machineOf(0, -1) = -1; machineOf(0, 1) = -1; machineOf(0, MIN) = -1; machineOf(0, MAX) = -1
            endOf(-1) = -1; endOf(1) = -1; endOf(MIN) = -1; endOf(MAX) = -1
            delayOf(-1) = -1; delayOf(1) = -1; delayOf(MIN) = -1; delayOf(MAX) = -1
            gapOf(-1) = -1; gapOf(1) = -1; gapOf(MIN) = -1; gapOf(MAX) = -1
            machineTime(-1) = -1; machineTime(3) = -1; machineTime(MIN) = -1; machineTime(MAX) = -1
            undo() = 3
            """);
    }
}
