import java.util.ArrayList;
import java.util.Collections;
import java.util.List;
import java.util.Random;
import java.util.function.IntSupplier;

/**
 * Runs of edits, right and wrong ones, on the class and on the plain room: after each, every question
 * must have the same answer in both. The seeds are fixed, so every run is the same each time.
 */
public final class PlainRoomTest {
    private record Question(String call, IntSupplier got, IntSupplier want) {}

    private static final int RUNS = 600;
    private static final int EDITS = 45;

    private final Random random;
    private final int latest;
    private final boolean full;
    private final ProjectionRoom room = new ProjectionRoom();
    private final PlainRoom plain = new PlainRoom();
    private final StringBuilder story = new StringBuilder();
    private int answers = 0;
    private boolean same = true;

    private PlainRoomTest(int seed) {
        random = new Random(seed);
        // Crowded days have losses, wide ones are smooth, late ones come near the last minute.
        latest = new int[] {30, 200, 900, 1439}[seed % 4];
        // Only some of them, since the plain room is slow at them.
        full = seed % 15 == 0;
    }

    public static void main(String[] args) {
        long answers = 0;
        for (int seed = 0; seed < RUNS; seed++) {
            PlainRoomTest run = new PlainRoomTest(seed);
            if (!run.runsAlike()) {
                System.out.println("seed " + seed + ": " + run.story);
                System.exit(1);
            }
            answers += run.answers;
        }
        System.out.println(answers + " answers are the same in both rooms");
    }

    private boolean runsAlike() {
        if (full) {
            fillRoom();
        }
        for (int i = 0; i < EDITS && same; i++) {
            edit();
            if (same) {
                questions();
            }
        }
        return same;
    }

    private void due(String call, int got, int want) {
        answers++;
        if (got != want) {
            same = false;
            story.append("\n  ").append(call).append(" answered ").append(got).append(", due is ").append(want);
        }
    }

    private void tell(String call, int got, int want) {
        story.append(call).append(" = ").append(got).append("; ");
        due(call, got, want);
    }

    // Now and then a number just outside its range, or any number at all.
    private int pick(int least, int most) {
        return switch (random.nextInt(120)) {
            case 0 -> least - 1;
            case 1 -> most + 1;
            case 2 -> random.nextInt();
            case 3 -> random.nextBoolean() ? Integer.MIN_VALUE : Integer.MAX_VALUE;
            default -> least + random.nextInt(most - least + 1);
        };
    }

    private int pickStart() {
        int base = latest == 1439 ? 1350 : 0;
        return random.nextInt(40) == 0 ? pick(0, 1439) : base + random.nextInt(latest - base + 1);
    }

    private int shows() {
        int count = 0;
        while (count < 6 && plain.delayOf(count) >= 0) {
            count++;
        }
        return count;
    }

    private int pickShow() {
        return pick(0, Math.max(0, shows() - 1));
    }

    // Edits by chance seldom come to rooms that hold all they can.
    private void fillRoom() {
        for (int i = 0; i < 24; i++) {
            addReel(i % 4);
        }
        for (int i = 0; i < 6; i++) {
            addShow();
        }
        for (int i = 0; i < 8; i++) {
            addBreak();
        }
    }

    private void addReel(int film) {
        int length = pick(1, 30), aspect = pick(0, 2);
        tell("addReel(" + film + ", " + length + ", " + aspect + ")",
                room.addReel(film, length, aspect), plain.addReel(film, length, aspect));
    }

    private void addShow() {
        int house = pick(0, 1), film = pick(0, 3), start = pickStart();
        tell("addShow(" + house + ", " + film + ", " + start + ")",
                room.addShow(house, film, start), plain.addShow(house, film, start));
    }

    private void addBreak() {
        int show = pickShow(), reel = pick(0, 3), repair = pick(1, 60);
        tell("addBreak(" + show + ", " + reel + ", " + repair + ")",
                room.addBreak(show, reel, repair), plain.addBreak(show, reel, repair));
    }

    private void edit() {
        switch (random.nextInt(20)) {
            case 0, 1, 2 -> addReel(pick(0, 3));
            case 3 -> {
                int film = pick(0, 3);
                tell("removeReels(" + film + ")", room.removeReels(film), plain.removeReels(film));
            }
            case 4 -> {
                int film = pick(0, 3), house = pick(0, 1);
                tell("setHome(" + film + ", " + house + ")", room.setHome(film, house), plain.setHome(film, house));
            }
            case 5, 6 -> {
                int house = pick(0, 1);
                tell("addMachine(" + house + ")", room.addMachine(house), plain.addMachine(house));
            }
            case 7 -> {
                int machine = pick(0, 4);
                tell("removeMachine(" + machine + ")", room.removeMachine(machine), plain.removeMachine(machine));
            }
            case 8 -> {
                int carriers = pick(1, 3);
                tell("setCarriers(" + carriers + ")", room.setCarriers(carriers), plain.setCarriers(carriers));
            }
            case 9, 10 -> {
                int duration = pick(0, 3);
                int minutes = pick(duration == 3 ? 1 : 0, new int[] {10, 10, 15, 30}[duration & 3]);
                tell("setDuration(" + duration + ", " + minutes + ")",
                        room.setDuration(duration, minutes), plain.setDuration(duration, minutes));
            }
            case 11, 12, 13 -> addShow();
            case 14 -> {
                int show = pickShow();
                tell("removeShow(" + show + ")", room.removeShow(show), plain.removeShow(show));
            }
            case 15 -> {
                int show = pickShow(), start = pickStart();
                tell("moveShow(" + show + ", " + start + ")", room.moveShow(show, start), plain.moveShow(show, start));
            }
            case 16, 17 -> addBreak();
            case 18 -> {
                if (random.nextInt(3) == 0) {
                    tell("clearBreaks()", room.clearBreaks(), plain.clearBreaks());
                }
            }
            default -> {
                int times = 1 + random.nextInt(6);
                for (int i = 0; i < times; i++) {
                    tell("undo()", room.undo(), plain.undo());
                }
            }
        }
    }

    // All that a number of a film, machine, show or reel can be, those just outside, and any number at all.
    private int[] numbers() {
        return new int[] {-1, 0, 1, 2, 3, 4, 5, 6, random.nextInt()};
    }

    // In any order, so that no answer leans on what an earlier question left behind.
    private void questions() {
        List<Question> all = new ArrayList<>();
        for (int n : numbers()) {
            all.add(new Question("filmLength(" + n + ")", () -> room.filmLength(n), () -> plain.filmLength(n)));
            all.add(new Question("houseOf(" + n + ")", () -> room.houseOf(n), () -> plain.houseOf(n)));
            all.add(new Question("machineTime(" + n + ")", () -> room.machineTime(n), () -> plain.machineTime(n)));
            all.add(new Question("endOf(" + n + ")", () -> room.endOf(n), () -> plain.endOf(n)));
            all.add(new Question("delayOf(" + n + ")", () -> room.delayOf(n), () -> plain.delayOf(n)));
            all.add(new Question("gapOf(" + n + ")", () -> room.gapOf(n), () -> plain.gapOf(n)));
            all.add(new Question("removalGain(" + n + ")", () -> room.removalGain(n), () -> plain.removalGain(n)));
            for (int r : numbers()) {
                all.add(new Question("startOf(" + n + ", " + r + ")", () -> room.startOf(n, r), () -> plain.startOf(n, r)));
                all.add(new Question("machineOf(" + n + ", " + r + ")",
                        () -> room.machineOf(n, r), () -> plain.machineOf(n, r)));
            }
        }
        all.add(new Question("loss()", room::loss, plain::loss));
        all.add(new Question("carriedReels()", room::carriedReels, plain::carriedReels));
        all.add(new Question("plateChanges()", room::plateChanges, plain::plateChanges));
        all.add(new Question("bestHomes()", room::bestHomes, plain::bestHomes));
        for (int n : new int[] {-1, 0, 1, 2, random.nextInt()}) {
            all.add(new Question("missingMachines(" + n + ")", () -> room.missingMachines(n), () -> plain.missingMachines(n)));
        }
        int show = pickShow();
        all.add(new Question("leastShift(" + show + ")", () -> room.leastShift(show), () -> plain.leastShift(show)));
        Collections.shuffle(all, random);
        for (Question question : all) {
            due(question.call, question.got.getAsInt(), question.want.getAsInt());
        }
    }
}
