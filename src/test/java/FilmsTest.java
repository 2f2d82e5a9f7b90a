/** Promises 2 to 5: addReel, removeReels, setHome, filmLength. */
public final class FilmsTest {
    public static void main(String[] args) {
        Script script = new Script();
        addReel(script);
        removeReels(script);
        setHome(script);
        filmLength(script);
        script.close();
    }

    private static void addReel(Script script) {
        script.run("promise 2: reels are counted for each film", """
            addReel(0, 1, 0) = 1; addReel(0, 30, 2) = 2; addReel(3, 15, 1) = 1; addReel(0, 2, 1) = 3
            filmLength(0) = 33; filmLength(3) = 15; filmLength(1) = 0
            """);
        script.run("promise 2: six reels and no more", """
            addReel(1, 1, 0) = 1; addReel(1, 2, 0) = 2; addReel(1, 3, 0) = 3
            addReel(1, 4, 0) = 4; addReel(1, 5, 0) = 5; addReel(1, 6, 0) = 6
            addReel(1, 7, 0) = CAPACITY_EXCEEDED; filmLength(1) = 21
            addReel(1, 0, 0) = INVALID_ARGUMENT; addReel(1, 31, 0) = INVALID_ARGUMENT  // rather than the limit
            addReel(1, 1, 3) = INVALID_ARGUMENT
            addReel(2, 7, 0) = 1
            undo() = 4; filmLength(1) = 21; undo() = 3; filmLength(1) = 15  // what failed was no edit
            """);
        script.run("promise 2: arguments out of range", """
            addReel(-1, 1, 0) = -1; addReel(4, 1, 0) = -1; addReel(MIN, 1, 0) = -1; addReel(MAX, 1, 0) = -1
            addReel(0, 0, 0) = -1; addReel(0, 31, 0) = -1; addReel(0, MIN, 0) = -1; addReel(0, MAX, 0) = -1
            addReel(0, 1, -1) = -1; addReel(0, 1, 3) = -1; addReel(0, 1, MIN) = -1; addReel(0, 1, MAX) = -1
            filmLength(0) = 0; undo() = NOT_POSSIBLE
            """);
        script.run("promise 2: a show gets the reels that its film gets later, behind the others", """
            addReel(0, 10, 0) = 1; addShow(0, 0, 5) = 0; endOf(0) = 15; startOf(0, 1) = -1
            addReel(0, 20, 0) = 2; startOf(0, 1) = 15; endOf(0) = 35
            """);
    }

    private static void removeReels(Script script) {
        script.run("promise 3: all reels of one film", """
            addReel(0, 10, 0) = 1; addReel(0, 11, 1) = 2; addReel(1, 12, 2) = 1
            removeReels(0) = 2; filmLength(0) = 0; filmLength(1) = 12; removeReels(0) = 0
            addShow(0, 0, 0) = NOT_POSSIBLE
            addReel(0, 7, 2) = 1; filmLength(0) = 7; addShow(0, 0, 5) = 0; endOf(0) = 12
            """);
        script.run("promise 3: not while a show has the film", """
            addReel(0, 10, 0) = 1; addReel(2, 10, 0) = 1; addReel(3, 4, 0) = 1
            addShow(0, 2, 0) = 0; addShow(0, 0, 0) = 1
            removeReels(0) = NOT_POSSIBLE; removeReels(2) = NOT_POSSIBLE; removeReels(3) = 1
            filmLength(0) = 10; filmLength(2) = 10; filmLength(3) = 0
            removeShow(0) = 1; removeReels(2) = 1; removeReels(0) = NOT_POSSIBLE
            """);
        script.run("promise 3: arguments out of range", """
            removeReels(-1) = -1; removeReels(4) = -1; removeReels(MIN) = -1; removeReels(MAX) = -1
            undo() = NOT_POSSIBLE
            """);
        script.run("promise 3: the home stays", """
            setHome(1, 1) = 0; addReel(1, 5, 0) = 1; removeReels(1) = 1; setHome(1, 1) = 1
            """);
    }

    private static void setHome(Script script) {
        script.run("promise 4: the home is where the reels are at first", """
            addReel(1, 10, 0) = 1; addShow(1, 1, 0) = 0; startOf(0, 0) = 13; carriedReels() = 1
            setHome(1, 1) = 0; startOf(0, 0) = 3; carriedReels() = 0
            setHome(1, 1) = 1; setHome(0, 1) = 0; carriedReels() = 0
            setHome(1, 0) = 1; carriedReels() = 1
            """);
        script.run("promise 4: arguments out of range", """
            setHome(-1, 0) = -1; setHome(4, 0) = -1; setHome(0, -1) = -1; setHome(0, 2) = -1
            setHome(MIN, 0) = -1; setHome(MAX, 0) = -1; setHome(0, MIN) = -1; setHome(0, MAX) = -1
            undo() = NOT_POSSIBLE; setHome(0, 1) = 0; setHome(3, 1) = 0
            """);
    }

    private static void filmLength(Script script) {
        script.run("promise 5: the sum of the lengths, without repairs", """
            addReel(2, 30, 0) = 1; addReel(2, 1, 0) = 2; addReel(2, 8, 0) = 3; filmLength(2) = 39
            addShow(0, 2, 0) = 0; addBreak(0, 0, 9) = 1; filmLength(2) = 39
            """);
        script.run("promise 5: film 3 has its own six reels", """
            addReel(3, 30, 0) = 1; addReel(3, 30, 0) = 2; addReel(3, 30, 0) = 3
            addReel(3, 30, 0) = 4; addReel(3, 30, 0) = 5; addReel(3, 30, 0) = 6; filmLength(3) = 180
            filmLength(2) = 0
            """);
        script.run("promise 5: arguments out of range", """
            filmLength(-1) = -1; filmLength(4) = -1; filmLength(MIN) = -1; filmLength(MAX) = -1
            """);
    }
}
