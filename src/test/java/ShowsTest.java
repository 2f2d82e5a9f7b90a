/** Promises 11 to 15: addShow, removeShow, moveShow, addBreak, clearBreaks. */
public final class ShowsTest {
    public static void main(String[] args) {
        Script script = new Script();
        addShow(script);
        removeShow(script);
        moveShow(script);
        addBreak(script);
        clearBreaks(script);
        script.close();
    }

    private static void addShow(Script script) {
        script.run("promise 11: six shows and no more, and which error goes first", """
            addShow(0, 1, 0) = NOT_POSSIBLE
            addReel(1, 1, 0) = 1
            addShow(0, 1, 0) = 0; addShow(1, 1, 1439) = 1; addShow(0, 1, 7) = 2
            addShow(0, 1, 7) = 3; addShow(1, 1, 7) = 4; addShow(0, 1, 7) = 5
            addShow(0, 1, 0) = CAPACITY_EXCEEDED
            addShow(0, 0, 0) = NOT_POSSIBLE  // rather than the limit
            addShow(0, 1, 1440) = INVALID_ARGUMENT; addShow(2, 1, 0) = INVALID_ARGUMENT
            addShow(0, 0, 1440) = INVALID_ARGUMENT; addShow(2, 0, 0) = INVALID_ARGUMENT
            delayOf(5) = 50; delayOf(6) = -1
            undo() = 4; delayOf(5) = -1; delayOf(4) = 30
            """);
        script.run("promise 11: arguments out of range", """
            addReel(0, 1, 0) = 1; addReel(3, 1, 0) = 1
            addShow(-1, 0, 0) = -1; addShow(2, 0, 0) = -1; addShow(MIN, 0, 0) = -1; addShow(MAX, 0, 0) = -1
            addShow(0, -1, 0) = -1; addShow(0, 4, 0) = -1; addShow(0, MIN, 0) = -1; addShow(0, MAX, 0) = -1
            addShow(0, 0, -1) = -1; addShow(0, 0, 1440) = -1; addShow(0, 0, MIN) = -1; addShow(0, 0, MAX) = -1
            loss() = 0; endOf(0) = -1; undo() = 1
            """);
        script.run("promise 11: house, film and planned start", """
            addReel(0, 10, 0) = 1; addReel(3, 20, 0) = 1; addReel(3, 5, 0) = 2
            addShow(1, 3, 1439) = 0; startOf(0, 0) = 1439; machineOf(0, 0) = 2; startOf(0, 1) = 1462; endOf(0) = 1467
            addShow(0, 0, 1439) = 1; startOf(1, 0) = 1439; machineOf(1, 0) = 0; endOf(1) = 1449
            """);
    }

    private static void removeShow(Script script) {
        script.run("promise 12: the breaks go with their show, the others get lower numbers", """
            addReel(0, 10, 0) = 1; addReel(1, 20, 0) = 1
            addShow(0, 0, 3) = 0; addShow(0, 1, 100) = 1; addShow(1, 0, 200) = 2
            addBreak(0, 0, 5) = 1; addBreak(1, 0, 6) = 2; addBreak(2, 0, 7) = 3; addBreak(1, 0, 1) = 4
            endOf(0) = 18; endOf(1) = 127; endOf(2) = 217
            removeShow(1) = 2; endOf(0) = 18; endOf(1) = 217; machineOf(1, 0) = 2; endOf(2) = -1
            addBreak(0, 0, 1) = 3; endOf(0) = 19
            removeShow(0) = 1; endOf(0) = 217; addBreak(0, 0, 2) = 2; endOf(0) = 219
            removeShow(0) = 0; loss() = 0; clearBreaks() = 0
            """);
        script.run("promise 12: one of six shows goes", """
            addReel(0, 1, 0) = 1; addReel(1, 2, 0) = 1; addReel(2, 3, 0) = 1; addReel(3, 4, 0) = 1
            addShow(0, 0, 100) = 0; addShow(1, 1, 200) = 1; addShow(0, 2, 300) = 2
            addShow(1, 3, 400) = 3; addShow(0, 1, 500) = 4; addShow(1, 0, 600) = 5
            endOf(0) = 101; endOf(1) = 202; endOf(2) = 303; endOf(3) = 404; endOf(4) = 502; endOf(5) = 601
            removeShow(1) = 5
            endOf(0) = 101; endOf(1) = 303; endOf(2) = 404; endOf(3) = 502; endOf(4) = 601; endOf(5) = -1
            machineOf(0, 0) = 0; machineOf(1, 0) = 0; machineOf(2, 0) = 2; machineOf(3, 0) = 0; machineOf(4, 0) = 2
            removeShow(4) = 4; endOf(3) = 502; endOf(4) = -1; removeShow(0) = 3
            endOf(0) = 303; endOf(1) = 404; endOf(2) = 502; endOf(3) = -1
            """);
        script.run("promise 12: the last show goes, the others stay", """
            addReel(0, 10, 0) = 1; addReel(1, 20, 1) = 1; addShow(0, 0, 3) = 0; addShow(1, 1, 50) = 1
            addBreak(0, 0, 9) = 1; removeShow(1) = 1; endOf(0) = 22; removeReels(1) = 1; removeReels(0) = -2
            """);
        script.run("promise 12: arguments out of range", """
            removeShow(0) = -1; addReel(0, 10, 0) = 1; addShow(0, 0, 3) = 0
            removeShow(-1) = -1; removeShow(1) = -1; removeShow(MIN) = -1; removeShow(MAX) = -1
            undo() = 1; undo() = 0
            """);
    }

    private static void moveShow(Script script) {
        script.run("promise 13: the planned start decides which show is planned first", """
            addReel(0, 10, 0) = 1; addShow(0, 0, 100) = 0; addShow(0, 0, 50) = 1
            startOf(0, 0) = 100; startOf(1, 0) = 50
            moveShow(0, 50) = 100; startOf(0, 0) = 50; startOf(1, 0) = 67   // the same start: the lower number
            moveShow(0, 51) = 50; startOf(0, 0) = 67; startOf(1, 0) = 50
            moveShow(0, 51) = 51; moveShow(0, 1439) = 51; startOf(0, 0) = 1439
            moveShow(0, 0) = 1439; startOf(0, 0) = 3; delayOf(0) = 3; startOf(1, 0) = 50
            """);
        script.run("promise 13: arguments out of range", """
            moveShow(0, 0) = -1; addReel(0, 10, 0) = 1; addShow(0, 0, 100) = 0
            moveShow(-1, 0) = -1; moveShow(1, 0) = -1; moveShow(MIN, 0) = -1; moveShow(MAX, 0) = -1
            moveShow(0, -1) = -1; moveShow(0, 1440) = -1; moveShow(0, MIN) = -1; moveShow(0, MAX) = -1
            startOf(0, 0) = 100; undo() = 1
            """);
    }

    private static void addBreak(Script script) {
        script.run("promise 14: the repair times of a show and reel add up", """
            addReel(0, 10, 0) = 1; addReel(0, 20, 0) = 2; addShow(0, 0, 3) = 0; addShow(0, 0, 300) = 1
            addBreak(0, 0, 1) = 1; startOf(0, 1) = 14; endOf(0) = 34; endOf(1) = 330
            addBreak(0, 0, 60) = 2; startOf(0, 1) = 74; endOf(0) = 94
            addBreak(0, 1, 5) = 3; startOf(0, 1) = 74; endOf(0) = 99; endOf(1) = 330
            addBreak(1, 1, 7) = 4; startOf(1, 1) = 310; endOf(1) = 337; endOf(0) = 99
            """);
        script.run("promise 14: eight breaks and no more", """
            addReel(0, 10, 0) = 1; addShow(0, 0, 3) = 0
            addBreak(0, 0, 1) = 1; addBreak(0, 0, 1) = 2; addBreak(0, 0, 1) = 3; addBreak(0, 0, 1) = 4
            addBreak(0, 0, 1) = 5; addBreak(0, 0, 1) = 6; addBreak(0, 0, 1) = 7; addBreak(0, 0, 1) = 8
            addBreak(0, 0, 1) = CAPACITY_EXCEEDED; endOf(0) = 21
            addBreak(0, 0, 61) = INVALID_ARGUMENT; addBreak(0, 1, 1) = INVALID_ARGUMENT  // rather than the limit
            addBreak(1, 0, 1) = INVALID_ARGUMENT
            undo() = 4; endOf(0) = 20; addBreak(0, 0, 2) = 8; endOf(0) = 22
            """);
        script.run("promise 14: a break delays the reel in its next show", """
            addReel(0, 10, 0) = 1; addShow(0, 0, 3) = 0; addShow(0, 0, 20) = 1; startOf(1, 0) = 20
            addBreak(0, 0, 4) = 1; startOf(1, 0) = 24; delayOf(1) = 4; loss() = 4
            """);
        script.run("promise 14: arguments out of range", """
            addBreak(0, 0, 1) = -1
            addReel(0, 10, 0) = 1; addReel(1, 10, 0) = 1; addReel(1, 10, 0) = 2; addShow(0, 0, 3) = 0
            addBreak(-1, 0, 1) = -1; addBreak(1, 0, 1) = -1; addBreak(MIN, 0, 1) = -1; addBreak(MAX, 0, 1) = -1
            addBreak(0, -1, 1) = -1; addBreak(0, 1, 1) = -1; addBreak(0, MIN, 1) = -1; addBreak(0, MAX, 1) = -1
            addBreak(0, 0, 0) = -1; addBreak(0, 0, 61) = -1; addBreak(0, 0, MIN) = -1; addBreak(0, 0, MAX) = -1
            endOf(0) = 13; undo() = 3; clearBreaks() = 0
            """);
    }

    private static void clearBreaks(Script script) {
        script.run("promise 15: all breaks of all shows", """
            clearBreaks() = 0
            addReel(0, 10, 0) = 1; addShow(0, 0, 3) = 0; addShow(1, 0, 100) = 1
            addBreak(0, 0, 5) = 1; addBreak(1, 0, 6) = 2; endOf(0) = 18; endOf(1) = 116
            clearBreaks() = 2; endOf(0) = 13; endOf(1) = 110; clearBreaks() = 0
            addBreak(1, 0, 9) = 1; endOf(0) = 13; endOf(1) = 119
            """);
    }
}
