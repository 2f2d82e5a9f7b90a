/** The five examples of the document, on the class and on the plain room that it is compared with. */
public final class ExamplesTest {
    public static void main(String[] args) {
        runAll(new Script());
        runAll(new Script(PlainRoom.class));
    }

    private static void runAll(Script script) {
        script.run("example 1: three reels on two machines", """
            addReel(0, 10, 0) = 1; addReel(0, 12, 0) = 2; addReel(0, 8, 1) = 3;
            addShow(0, 0, 0) = 0; startOf(0, 0) = 3; machineOf(0, 1) = 1; endOf(0) = 33; loss() = 3;
            """);
        script.run("example 2: two reels are carried by one carrier", """
            addReel(0, 10, 0) = 1; addReel(0, 12, 0) = 2; addShow(1, 0, 20) = 0;
            delayOf(0) = 0; gapOf(0) = 3; missingMachines(1) = -4; leastShift(0) = -4;
            """);
        script.run("example 3: one print for two houses", """
            addReel(0, 10, 0) = 1; addShow(0, 0, 5) = 0; addShow(1, 0, 20) = 1;
            carriedReels() = 1; startOf(1, 0) = 32; bestHomes() = 0;
            """);
        script.run("example 4: a break is undone", """
            addShow(0, 0, 5) = -2; addReel(0, 5, 0) = 1; addShow(0, 0, 5) = 0; addBreak(0, 0, 7) = 1;
            endOf(0) = 17; undo() = 2; endOf(0) = 10;
            """);
        script.run("example 5: a film that is still shown", """
            addReel(1, 5, 0) = 1; addShow(0, 1, 3) = 0; removeReels(1) = -2; removalGain(0) = 0;
            removeShow(0) = 0; removeReels(1) = 1;
            """);
        script.close();
    }
}
