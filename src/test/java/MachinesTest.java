/** Promises 6 to 10: addMachine, removeMachine, houseOf, setCarriers, setDuration. */
public final class MachinesTest {
    public static void main(String[] args) {
        Script script = new Script();
        addAndRemove(script);
        houseOf(script);
        setCarriers(script);
        setDuration(script);
        script.close();
    }

    private static void addAndRemove(Script script) {
        script.run("promise 6: machines are added behind the others, up to five", """
            addMachine(1) = 3; addMachine(0) = 4; houseOf(3) = 1; houseOf(4) = 0
            addMachine(0) = CAPACITY_EXCEEDED; addMachine(1) = CAPACITY_EXCEEDED
            addMachine(2) = INVALID_ARGUMENT; addMachine(-1) = INVALID_ARGUMENT  // rather than the limit
            houseOf(5) = -1; undo() = 1; houseOf(4) = -1
            """);
        script.run("promise 6: arguments out of range", """
            addMachine(-1) = -1; addMachine(2) = -1; addMachine(MIN) = -1; addMachine(MAX) = -1
            houseOf(3) = -1; undo() = NOT_POSSIBLE
            """);
        script.run("promise 7: the higher numbers move down", """
            addMachine(1) = 3; addMachine(0) = 4
            removeMachine(1) = 4; houseOf(0) = 0; houseOf(1) = 1; houseOf(2) = 1; houseOf(3) = 0; houseOf(4) = -1
            removeMachine(4) = -1; removeMachine(3) = 3; removeMachine(0) = 2
            houseOf(0) = 1; houseOf(1) = 1; houseOf(2) = -1
            removeMachine(0) = 1; removeMachine(0) = 0; removeMachine(0) = -1; houseOf(0) = -1
            addMachine(1) = 0; houseOf(0) = 1; addMachine(0) = 1; houseOf(1) = 0
            """);
        script.run("promise 7: arguments out of range", """
            removeMachine(-1) = -1; removeMachine(3) = -1; removeMachine(MIN) = -1; removeMachine(MAX) = -1
            houseOf(2) = 1; undo() = NOT_POSSIBLE
            """);
        script.run("promise 7: a show goes on with the machines that remain, or not at all", """
            addReel(0, 10, 0) = 1; addReel(0, 10, 0) = 2; addShow(0, 0, 3) = 0
            machineOf(0, 1) = 1; gapOf(0) = 0
            removeMachine(0) = 2; machineOf(0, 0) = 0; machineOf(0, 1) = 0; gapOf(0) = 3
            removeMachine(0) = 1; machineOf(0, 0) = NOT_FOUND; loss() = 1000
            """);
    }

    private static void houseOf(Script script) {
        script.run("promise 8: arguments out of range", """
            houseOf(-1) = -1; houseOf(3) = -1; houseOf(5) = -1; houseOf(MIN) = -1; houseOf(MAX) = -1
            """);
    }

    private static void setCarriers(Script script) {
        script.run("promise 9: the previous number", """
            setCarriers(3) = 1; setCarriers(2) = 3; setCarriers(2) = 2; setCarriers(1) = 2
            setCarriers(0) = -1; setCarriers(4) = -1; setCarriers(-1) = -1
            setCarriers(MIN) = -1; setCarriers(MAX) = -1
            setCarriers(1) = 1
            """);
        script.run("promise 9: three reels are carried by one, two and three carriers", """
            addReel(0, 1, 0) = 1; addReel(0, 1, 0) = 2; addReel(0, 1, 0) = 3; addShow(1, 0, 0) = 0
            startOf(0, 0) = 13; startOf(0, 1) = 33; startOf(0, 2) = 53
            setCarriers(2) = 1; startOf(0, 0) = 13; startOf(0, 1) = 17; startOf(0, 2) = 33
            setCarriers(3) = 2; startOf(0, 0) = 13; startOf(0, 1) = 17; startOf(0, 2) = 21
            """);
    }

    private static void setDuration(Script script) {
        script.run("promise 10: each duration has its own range", """
            setDuration(THREADING, 0) = 3; setDuration(THREADING, 10) = 0
            setDuration(THREADING, 11) = -1; setDuration(THREADING, -1) = -1
            setDuration(PLATE, 0) = 2; setDuration(PLATE, 10) = 0
            setDuration(PLATE, 11) = -1; setDuration(PLATE, -1) = -1
            setDuration(REWINDING, 0) = 4; setDuration(REWINDING, 15) = 0
            setDuration(REWINDING, 16) = -1; setDuration(REWINDING, -1) = -1
            setDuration(CARRYING, 1) = 10; setDuration(CARRYING, 30) = 1
            setDuration(CARRYING, 31) = -1; setDuration(CARRYING, 0) = -1
            setDuration(0, 5) = 10; setDuration(1, 5) = 10; setDuration(2, 5) = 15; setDuration(3, 5) = 30
            """);
        script.run("promise 10: arguments out of range", """
            setDuration(-1, 5) = -1; setDuration(4, 5) = -1; setDuration(MIN, 5) = -1; setDuration(MAX, 5) = -1
            setDuration(0, MIN) = -1; setDuration(1, MAX) = -1; setDuration(2, MIN) = -1; setDuration(3, MAX) = -1
            undo() = NOT_POSSIBLE
            """);
        script.run("promise 10: what each duration does", """
            addReel(0, 10, 0) = 1; addReel(0, 10, 1) = 2; addShow(1, 0, 0) = 0; addShow(1, 0, 1) = 1
            startOf(0, 0) = 13; startOf(0, 1) = 33; startOf(1, 0) = 48; startOf(1, 1) = 63
            setDuration(THREADING, 5) = 3   // 10 + 5; 30 + 5; 45 + 2 + 5; 62 + 2 + 5
            startOf(0, 0) = 15; startOf(0, 1) = 35; startOf(1, 0) = 52; startOf(1, 1) = 69
            setDuration(PLATE, 7) = 2       // 15; 25 + 7 + 5; 47 + 7 + 5; 69 + 7 + 5
            startOf(0, 0) = 15; startOf(0, 1) = 37; startOf(1, 0) = 59; startOf(1, 1) = 81
            setDuration(CARRYING, 20) = 10  // 20 + 5; 60 + 5; 75 + 7 + 5; 97 + 7 + 5
            startOf(0, 0) = 25; startOf(0, 1) = 65; startOf(1, 0) = 87; startOf(1, 1) = 109
            setDuration(REWINDING, 15) = 4; setDuration(PLATE, 0) = 7
            startOf(1, 0) = 80; startOf(1, 1) = 95   // 75 + 5; 75 + 15 + 5
            """);
    }
}
