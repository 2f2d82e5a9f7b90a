/**
 * A planner for a projection room that serves two houses with few machines.
 *
 * The facts of the day stand in a Day, the edits that can be undone in a History, and what follows
 * from the facts in a Plan. All of them are made once, with the object: no call makes a new one.
 */
public final class ProjectionRoom {
    public static final int INVALID_ARGUMENT = -1;
    public static final int NOT_POSSIBLE = -2;
    public static final int CAPACITY_EXCEEDED = -3;
    public static final int NOT_FOUND = -4;
    public static final int THREADING = 0, PLATE = 1, REWINDING = 2, CARRYING = 3;

    private static final int FILMS = 4;
    private static final int HOUSES = 2;
    private static final int ASPECTS = 3;
    private static final int DURATIONS = 4;
    private static final int MAX_REELS = 6;
    private static final int MAX_LENGTH = 30;
    private static final int MAX_MACHINES = 5;
    private static final int MAX_CARRIERS = 3;
    private static final int MAX_SHOWS = 6;
    private static final int MAX_START = 1439;
    private static final int MAX_BREAKS = 8;
    private static final int MAX_REPAIR = 60;
    private static final int MAX_UNDO = 5;
    private static final int MAX_SHIFT = 180;

    private static final int LOSS_WITHOUT_MACHINE = 1000;
    // A gain may be negative itself, so that the usual error numbers would be mistaken for gains.
    private static final int NO_GAIN = -1000000;
    private static final int NONE = -1;

    private static final int[] FIRST_MINUTES = {3, 2, 4, 10};
    private static final int[] LEAST_MINUTES = {0, 0, 0, 1};
    private static final int[] MOST_MINUTES = {10, 10, 15, 30};

    private final Day day = new Day();
    private final Day trial = new Day();
    private final History history = new History();
    private final Plan plan = new Plan();

    public ProjectionRoom() {
    }

    // ---- films

    public int addReel(int film, int length, int aspect) {
        if (!isIn(film, 0, FILMS - 1) || !isIn(length, 1, MAX_LENGTH) || !isIn(aspect, 0, ASPECTS - 1)) {
            return INVALID_ARGUMENT;
        }
        if (day.reelCounts[film] >= MAX_REELS) {
            return CAPACITY_EXCEEDED;
        }
        history.remember(day);
        day.appendReel(film, length, aspect);
        return day.reelCounts[film];
    }

    public int removeReels(int film) {
        if (!isIn(film, 0, FILMS - 1)) {
            return INVALID_ARGUMENT;
        }
        if (day.isShown(film)) {
            return NOT_POSSIBLE;
        }
        history.remember(day);
        int before = day.reelCounts[film];
        day.reelCounts[film] = 0;
        return before;
    }

    public int setHome(int film, int house) {
        if (!isIn(film, 0, FILMS - 1) || !isIn(house, 0, HOUSES - 1)) {
            return INVALID_ARGUMENT;
        }
        history.remember(day);
        int before = day.homes[film];
        day.homes[film] = house;
        return before;
    }

    public int filmLength(int film) {
        if (!isIn(film, 0, FILMS - 1)) {
            return INVALID_ARGUMENT;
        }
        return day.sumOfLengths(film);
    }

    // ---- machines, carriers, durations

    public int addMachine(int house) {
        if (!isIn(house, 0, HOUSES - 1)) {
            return INVALID_ARGUMENT;
        }
        if (day.machineCount >= MAX_MACHINES) {
            return CAPACITY_EXCEEDED;
        }
        history.remember(day);
        day.appendMachine(house);
        return day.machineCount - 1;
    }

    public int removeMachine(int machine) {
        if (!isMachine(machine)) {
            return INVALID_ARGUMENT;
        }
        history.remember(day);
        day.dropMachine(machine);
        return day.machineCount;
    }

    public int houseOf(int machine) {
        if (!isMachine(machine)) {
            return INVALID_ARGUMENT;
        }
        return day.machineHouses[machine];
    }

    public int setCarriers(int carriers) {
        if (!isIn(carriers, 1, MAX_CARRIERS)) {
            return INVALID_ARGUMENT;
        }
        history.remember(day);
        int before = day.carrierCount;
        day.carrierCount = carriers;
        return before;
    }

    public int setDuration(int duration, int minutes) {
        if (!isIn(duration, 0, DURATIONS - 1)) {
            return INVALID_ARGUMENT;
        }
        if (!isIn(minutes, LEAST_MINUTES[duration], MOST_MINUTES[duration])) {
            return INVALID_ARGUMENT;
        }
        history.remember(day);
        int before = day.minutes[duration];
        day.minutes[duration] = minutes;
        return before;
    }

    // ---- shows and breaks

    public int addShow(int house, int film, int start) {
        if (!isIn(house, 0, HOUSES - 1) || !isIn(film, 0, FILMS - 1) || !isIn(start, 0, MAX_START)) {
            return INVALID_ARGUMENT;
        }
        if (day.reelCounts[film] == 0) {
            return NOT_POSSIBLE;
        }
        if (day.showCount >= MAX_SHOWS) {
            return CAPACITY_EXCEEDED;
        }
        history.remember(day);
        day.appendShow(house, film, start);
        return day.showCount - 1;
    }

    public int removeShow(int show) {
        if (!isShow(show)) {
            return INVALID_ARGUMENT;
        }
        history.remember(day);
        day.dropShow(show);
        return day.showCount;
    }

    public int moveShow(int show, int start) {
        if (!isShow(show) || !isIn(start, 0, MAX_START)) {
            return INVALID_ARGUMENT;
        }
        history.remember(day);
        int before = day.showStarts[show];
        day.showStarts[show] = start;
        return before;
    }

    public int addBreak(int show, int reel, int repair) {
        if (!isReelOfShow(show, reel) || !isIn(repair, 1, MAX_REPAIR)) {
            return INVALID_ARGUMENT;
        }
        if (day.breakCount >= MAX_BREAKS) {
            return CAPACITY_EXCEEDED;
        }
        history.remember(day);
        day.appendBreak(show, reel, repair);
        return day.breakCount;
    }

    public int clearBreaks() {
        history.remember(day);
        int before = day.breakCount;
        day.breakCount = 0;
        return before;
    }

    // ---- plan

    public int startOf(int show, int reel) {
        if (!isReelOfShow(show, reel)) {
            return INVALID_ARGUMENT;
        }
        plan.make(day);
        return plan.takesPlace[show] ? plan.starts[reelPlace(show, reel)] : NOT_FOUND;
    }

    public int machineOf(int show, int reel) {
        if (!isReelOfShow(show, reel)) {
            return INVALID_ARGUMENT;
        }
        plan.make(day);
        return plan.takesPlace[show] ? plan.machines[reelPlace(show, reel)] : NOT_FOUND;
    }

    public int endOf(int show) {
        if (!isShow(show)) {
            return INVALID_ARGUMENT;
        }
        plan.make(day);
        return plan.takesPlace[show] ? plan.ends[show] : NOT_FOUND;
    }

    public int delayOf(int show) {
        if (!isShow(show)) {
            return INVALID_ARGUMENT;
        }
        plan.make(day);
        return plan.delays[show];
    }

    public int gapOf(int show) {
        if (!isShow(show)) {
            return INVALID_ARGUMENT;
        }
        plan.make(day);
        return plan.gaps[show];
    }

    public int loss() {
        return plan.lossWith(day);
    }

    public int carriedReels() {
        plan.make(day);
        return plan.carried;
    }

    public int plateChanges() {
        plan.make(day);
        return plan.newPlates;
    }

    public int machineTime(int machine) {
        if (!isMachine(machine)) {
            return INVALID_ARGUMENT;
        }
        plan.make(day);
        return plan.runTimes[machine];
    }

    // ---- better plans

    public int leastShift(int show) {
        if (!isShow(show)) {
            return INVALID_ARGUMENT;
        }
        trial.copyFrom(day);
        int most = Math.min(MAX_SHIFT, MAX_START - day.showStarts[show]);
        for (int shift = 0; shift <= most; shift++) {
            trial.showStarts[show] = day.showStarts[show] + shift;
            if (plan.isSmooth(trial)) {
                return shift;
            }
        }
        return NOT_FOUND;
    }

    public int removalGain(int show) {
        if (!isShow(show)) {
            return NO_GAIN;
        }
        trial.copyFrom(day);
        trial.dropShow(show);
        return plan.lossWith(day) - plan.lossWith(trial);
    }

    public int bestHomes() {
        trial.copyFrom(day);
        trial.setHomes(0);
        int best = 0;
        int leastLoss = plan.lossWith(trial);
        for (int mask = 1; mask < 1 << FILMS; mask++) {
            trial.setHomes(mask);
            int loss = plan.lossWith(trial);
            if (loss < leastLoss) {
                best = mask;
                leastLoss = loss;
            }
        }
        return best;
    }

    public int missingMachines(int house) {
        if (!isIn(house, 0, HOUSES - 1)) {
            return INVALID_ARGUMENT;
        }
        trial.copyFrom(day);
        if (plan.isSmooth(trial)) {
            return 0;
        }
        int most = MAX_MACHINES - day.machineCount;
        for (int added = 1; added <= most; added++) {
            trial.appendMachine(house);
            if (plan.isSmooth(trial)) {
                return added;
            }
        }
        return NOT_FOUND;
    }

    public int undo() {
        if (history.size == 0) {
            return NOT_POSSIBLE;
        }
        history.restore(day);
        return history.size;
    }

    // ---- arguments

    private static boolean isIn(int value, int least, int most) {
        return least <= value && value <= most;
    }

    private boolean isMachine(int machine) {
        return isIn(machine, 0, day.machineCount - 1);
    }

    private boolean isShow(int show) {
        return isIn(show, 0, day.showCount - 1);
    }

    private boolean isReelOfShow(int show, int reel) {
        return isShow(show) && isIn(reel, 0, day.reelCounts[day.showFilms[show]] - 1);
    }

    // The reels of all films, and those of all shows, stand in one row, six for each film or show.
    private static int reelPlace(int filmOrShow, int reel) {
        return filmOrShow * MAX_REELS + reel;
    }

    /** The facts of a day: what the edits change and an undo brings back. */
    private static final class Day {
        final int[] reelCounts = new int[FILMS];
        final int[] lengths = new int[FILMS * MAX_REELS];
        final int[] aspects = new int[FILMS * MAX_REELS];
        final int[] homes = new int[FILMS];
        int machineCount = 3;
        final int[] machineHouses = new int[MAX_MACHINES];
        int carrierCount = 1;
        final int[] minutes = new int[DURATIONS];
        int showCount = 0;
        final int[] showHouses = new int[MAX_SHOWS];
        final int[] showFilms = new int[MAX_SHOWS];
        final int[] showStarts = new int[MAX_SHOWS];
        int breakCount = 0;
        final int[] breakShows = new int[MAX_BREAKS];
        final int[] breakReels = new int[MAX_BREAKS];
        final int[] repairs = new int[MAX_BREAKS];

        Day() {
            machineHouses[2] = 1;
            System.arraycopy(FIRST_MINUTES, 0, minutes, 0, DURATIONS);
        }

        void copyFrom(Day other) {
            System.arraycopy(other.reelCounts, 0, reelCounts, 0, FILMS);
            System.arraycopy(other.lengths, 0, lengths, 0, FILMS * MAX_REELS);
            System.arraycopy(other.aspects, 0, aspects, 0, FILMS * MAX_REELS);
            System.arraycopy(other.homes, 0, homes, 0, FILMS);
            machineCount = other.machineCount;
            System.arraycopy(other.machineHouses, 0, machineHouses, 0, MAX_MACHINES);
            carrierCount = other.carrierCount;
            System.arraycopy(other.minutes, 0, minutes, 0, DURATIONS);
            showCount = other.showCount;
            System.arraycopy(other.showHouses, 0, showHouses, 0, MAX_SHOWS);
            System.arraycopy(other.showFilms, 0, showFilms, 0, MAX_SHOWS);
            System.arraycopy(other.showStarts, 0, showStarts, 0, MAX_SHOWS);
            breakCount = other.breakCount;
            System.arraycopy(other.breakShows, 0, breakShows, 0, MAX_BREAKS);
            System.arraycopy(other.breakReels, 0, breakReels, 0, MAX_BREAKS);
            System.arraycopy(other.repairs, 0, repairs, 0, MAX_BREAKS);
        }

        void appendReel(int film, int length, int aspect) {
            int place = reelPlace(film, reelCounts[film]);
            lengths[place] = length;
            aspects[place] = aspect;
            reelCounts[film]++;
        }

        int sumOfLengths(int film) {
            int sum = 0;
            for (int reel = 0; reel < reelCounts[film]; reel++) {
                sum += lengths[reelPlace(film, reel)];
            }
            return sum;
        }

        boolean isShown(int film) {
            for (int show = 0; show < showCount; show++) {
                if (showFilms[show] == film) {
                    return true;
                }
            }
            return false;
        }

        void setHomes(int mask) {
            for (int film = 0; film < FILMS; film++) {
                homes[film] = (mask >> film) & 1;
            }
        }

        void appendMachine(int house) {
            machineHouses[machineCount] = house;
            machineCount++;
        }

        void dropMachine(int machine) {
            machineCount--;
            for (int m = machine; m < machineCount; m++) {
                machineHouses[m] = machineHouses[m + 1];
            }
        }

        int firstMachineIn(int house) {
            for (int machine = 0; machine < machineCount; machine++) {
                if (machineHouses[machine] == house) {
                    return machine;
                }
            }
            return NONE;
        }

        void appendShow(int house, int film, int start) {
            showHouses[showCount] = house;
            showFilms[showCount] = film;
            showStarts[showCount] = start;
            showCount++;
        }

        void dropShow(int show) {
            dropBreaksOf(show);
            showCount--;
            for (int s = show; s < showCount; s++) {
                showHouses[s] = showHouses[s + 1];
                showFilms[s] = showFilms[s + 1];
                showStarts[s] = showStarts[s + 1];
            }
        }

        // The other breaks close up, and follow their shows to the new numbers.
        private void dropBreaksOf(int show) {
            int kept = 0;
            for (int b = 0; b < breakCount; b++) {
                int other = breakShows[b];
                if (other != show) {
                    breakShows[kept] = other > show ? other - 1 : other;
                    breakReels[kept] = breakReels[b];
                    repairs[kept] = repairs[b];
                    kept++;
                }
            }
            breakCount = kept;
        }

        void appendBreak(int show, int reel, int repair) {
            breakShows[breakCount] = show;
            breakReels[breakCount] = reel;
            repairs[breakCount] = repair;
            breakCount++;
        }

        int repairTime(int show, int reel) {
            int sum = 0;
            for (int b = 0; b < breakCount; b++) {
                if (breakShows[b] == show && breakReels[b] == reel) {
                    sum += repairs[b];
                }
            }
            return sum;
        }
    }

    /** The days before the latest edits, the oldest first. */
    private static final class History {
        final Day[] days = new Day[MAX_UNDO];
        int size = 0;

        History() {
            for (int i = 0; i < MAX_UNDO; i++) {
                days[i] = new Day();
            }
        }

        void remember(Day day) {
            if (size == MAX_UNDO) {
                forgetOldest();
            }
            days[size].copyFrom(day);
            size++;
        }

        // The oldest day goes behind the others, so that its rows are used again.
        private void forgetOldest() {
            Day oldest = days[0];
            for (int i = 1; i < MAX_UNDO; i++) {
                days[i - 1] = days[i];
            }
            days[MAX_UNDO - 1] = oldest;
            size--;
        }

        void restore(Day day) {
            size--;
            day.copyFrom(days[size]);
        }
    }

    /** What follows from the facts of a day: it holds for the day that was planned last. */
    private static final class Plan {
        final boolean[] takesPlace = new boolean[MAX_SHOWS];
        final int[] starts = new int[MAX_SHOWS * MAX_REELS];
        final int[] machines = new int[MAX_SHOWS * MAX_REELS];
        final int[] ends = new int[MAX_SHOWS];
        final int[] delays = new int[MAX_SHOWS];
        final int[] gaps = new int[MAX_SHOWS];
        final int[] runTimes = new int[MAX_MACHINES];
        int carried = 0;
        int newPlates = 0;
        int lost = 0;

        // How things stand while the shows are planned one after the other.
        private final int[] order = new int[MAX_SHOWS];
        private final int[] reelHouses = new int[FILMS * MAX_REELS];
        private final int[] reelReady = new int[FILMS * MAX_REELS];
        private final int[] carrierFree = new int[MAX_CARRIERS];
        private final int[] machineFree = new int[MAX_MACHINES];
        private final int[] machineAspects = new int[MAX_MACHINES];

        Plan() {
        }

        void make(Day day) {
            open(day);
            for (int i = 0; i < day.showCount; i++) {
                planShow(day, order[i]);
            }
        }

        int lossWith(Day day) {
            make(day);
            return lost;
        }

        // No show lowers the loss, so the first one that has a loss decides.
        boolean isSmooth(Day day) {
            open(day);
            for (int i = 0; i < day.showCount && lost == 0; i++) {
                planShow(day, order[i]);
            }
            return lost == 0;
        }

        private void open(Day day) {
            carried = 0;
            newPlates = 0;
            lost = 0;
            for (int carrier = 0; carrier < MAX_CARRIERS; carrier++) {
                carrierFree[carrier] = 0;
            }
            for (int machine = 0; machine < MAX_MACHINES; machine++) {
                machineFree[machine] = 0;
                machineAspects[machine] = NONE;
                runTimes[machine] = 0;
            }
            for (int film = 0; film < FILMS; film++) {
                bringHome(film, day.homes[film]);
            }
            sortShows(day);
        }

        private void bringHome(int film, int home) {
            for (int reel = 0; reel < MAX_REELS; reel++) {
                int place = reelPlace(film, reel);
                reelHouses[place] = home;
                reelReady[place] = 0;
            }
        }

        // A show passes only those that start later, so equal starts keep the order of the numbers.
        private void sortShows(Day day) {
            for (int show = 0; show < day.showCount; show++) {
                int at = show;
                while (at > 0 && day.showStarts[order[at - 1]] > day.showStarts[show]) {
                    order[at] = order[at - 1];
                    at--;
                }
                order[at] = show;
            }
        }

        private void planShow(Day day, int show) {
            int firstMachine = day.firstMachineIn(day.showHouses[show]);
            takesPlace[show] = firstMachine != NONE;
            delays[show] = 0;
            gaps[show] = 0;
            if (firstMachine == NONE) {
                lost += LOSS_WITHOUT_MACHINE;
                return;
            }
            int due = day.showStarts[show];
            int reelCount = day.reelCounts[day.showFilms[show]];
            for (int reel = 0; reel < reelCount; reel++) {
                int end = planReel(day, show, reel, due, firstMachine);
                int wait = starts[reelPlace(show, reel)] - due;
                if (reel == 0) {
                    delays[show] = wait;
                } else {
                    gaps[show] += wait;
                }
                due = end;
            }
            ends[show] = due;
            lost += delays[show] + gaps[show];
        }

        private int planReel(Day day, int show, int reel, int due, int firstMachine) {
            int place = reelPlace(day.showFilms[show], reel);
            int aspect = day.aspects[place];
            int arrival = bring(day, place, day.showHouses[show]);
            int machine = soonestMachine(day, aspect, arrival, due, firstMachine);
            int start = startOn(day, machine, aspect, arrival, due);
            int end = start + day.lengths[place] + day.repairTime(show, reel);
            starts[reelPlace(show, reel)] = start;
            machines[reelPlace(show, reel)] = machine;
            if (needsPlate(machine, aspect)) {
                newPlates++;
            }
            runTimes[machine] += end - start;
            machineFree[machine] = end;
            machineAspects[machine] = aspect;
            reelReady[place] = end + day.minutes[REWINDING];
            return end;
        }

        private int bring(Day day, int place, int house) {
            if (reelHouses[place] == house) {
                return reelReady[place];
            }
            int carrier = soonestCarrier(day, reelReady[place]);
            int arrival = Math.max(carrierFree[carrier], reelReady[place]) + day.minutes[CARRYING];
            carrierFree[carrier] = arrival + day.minutes[CARRYING];
            reelHouses[place] = house;
            carried++;
            return arrival;
        }

        private int soonestCarrier(Day day, int ready) {
            int best = 0;
            for (int carrier = 1; carrier < day.carrierCount; carrier++) {
                if (Math.max(carrierFree[carrier], ready) < Math.max(carrierFree[best], ready)) {
                    best = carrier;
                }
            }
            return best;
        }

        private int soonestMachine(Day day, int aspect, int arrival, int due, int firstMachine) {
            int house = day.machineHouses[firstMachine];
            int best = firstMachine;
            int bestStart = startOn(day, best, aspect, arrival, due);
            for (int machine = firstMachine + 1; machine < day.machineCount; machine++) {
                if (day.machineHouses[machine] == house) {
                    int start = startOn(day, machine, aspect, arrival, due);
                    if (start < bestStart) {
                        best = machine;
                        bestStart = start;
                    }
                }
            }
            return best;
        }

        private int startOn(Day day, int machine, int aspect, int arrival, int due) {
            int free = machineFree[machine];
            if (needsPlate(machine, aspect)) {
                free += day.minutes[PLATE];
            }
            return Math.max(due, Math.max(arrival, free) + day.minutes[THREADING]);
        }

        private boolean needsPlate(int machine, int aspect) {
            return machineAspects[machine] != NONE && machineAspects[machine] != aspect;
        }
    }
}
