import java.util.ArrayDeque;
import java.util.ArrayList;
import java.util.Comparator;
import java.util.Deque;
import java.util.List;
import java.util.stream.IntStream;

/**
 * The document once more, written for the tests alone and in another way than the class: a state that
 * is copied whole before each edit, lists of records, and a plan that is a list of runs of reels.
 */
final class PlainRoom {
    record Reel(int length, int aspect) {}

    record Show(int house, int film, int start) {}

    record Break(int show, int reel, int repair) {}

    record Run(int show, int reel, int machine, int start, int end, int due, boolean carried, boolean plate) {}

    static final class State {
        final List<List<Reel>> films = new ArrayList<>();
        final List<Integer> homes = new ArrayList<>(List.of(0, 0, 0, 0));
        final List<Integer> machines = new ArrayList<>(List.of(0, 0, 1));
        final List<Integer> durations = new ArrayList<>(List.of(3, 2, 4, 10));
        final List<Show> shows = new ArrayList<>();
        final List<Break> breaks = new ArrayList<>();
        int carriers = 1;

        State() {
            for (int film = 0; film < 4; film++) {
                films.add(new ArrayList<>());
            }
        }

        State copy() {
            State copy = new State();
            for (int film = 0; film < 4; film++) {
                copy.films.get(film).addAll(films.get(film));
                copy.homes.set(film, homes.get(film));
                copy.durations.set(film, durations.get(film));
            }
            copy.machines.clear();
            copy.machines.addAll(machines);
            copy.shows.addAll(shows);
            copy.breaks.addAll(breaks);
            copy.carriers = carriers;
            return copy;
        }

        void dropShow(int show) {
            shows.remove(show);
            breaks.removeIf(b -> b.show == show);
            breaks.replaceAll(b -> b.show > show ? new Break(b.show - 1, b.reel, b.repair) : b);
        }

        boolean takesPlace(int show) {
            return machines.contains(shows.get(show).house);
        }
    }

    private State state = new State();
    private final Deque<State> past = new ArrayDeque<>();

    private void edit() {
        past.addLast(state.copy());
        if (past.size() > 5) {
            past.removeFirst();
        }
    }

    private static boolean out(int value, int least, int most) {
        return value < least || value > most;
    }

    private boolean noMachine(int machine) {
        return out(machine, 0, state.machines.size() - 1);
    }

    private boolean noShow(int show) {
        return out(show, 0, state.shows.size() - 1);
    }

    private boolean noReel(int show, int reel) {
        return noShow(show) || out(reel, 0, state.films.get(state.shows.get(show).film).size() - 1);
    }

    // ---- the plan

    static List<Run> plan(State s) {
        List<Run> runs = new ArrayList<>();
        int[] carrierFree = new int[s.carriers];
        List<Integer> order = IntStream.range(0, s.shows.size()).boxed()
                .sorted(Comparator.comparingInt(i -> s.shows.get(i).start)).toList();
        for (int show : order) {
            if (s.takesPlace(show)) {
                int due = s.shows.get(show).start;
                for (int reel = 0; reel < s.films.get(s.shows.get(show).film).size(); reel++) {
                    runs.add(next(s, runs, carrierFree, show, reel, due));
                    due = runs.get(runs.size() - 1).end;
                }
            }
        }
        return runs;
    }

    private static Run next(State s, List<Run> runs, int[] carrierFree, int show, int reel, int due) {
        Show here = s.shows.get(show);
        Reel piece = s.films.get(here.film).get(reel);
        Run before = lastOf(runs.stream().filter(r -> s.shows.get(r.show).film == here.film && r.reel == reel).toList());
        int whereabouts = before == null ? s.homes.get(here.film) : s.shows.get(before.show).house;
        int arrival = before == null ? 0 : before.end + s.durations.get(2);
        boolean carried = whereabouts != here.house;
        if (carried) {
            int ready = arrival;
            int carrier = IntStream.range(0, s.carriers).boxed()
                    .min(Comparator.comparingInt(c -> Math.max(carrierFree[c], ready))).orElseThrow();
            arrival = Math.max(carrierFree[carrier], ready) + s.durations.get(3);
            carrierFree[carrier] = arrival + s.durations.get(3);
        }
        Run best = null;
        for (int machine = 0; machine < s.machines.size(); machine++) {
            if (s.machines.get(machine) == here.house) {
                Run run = on(s, runs, machine, show, reel, piece, due, arrival, carried);
                best = best == null || run.start < best.start ? run : best;
            }
        }
        return best;
    }

    private static Run on(State s, List<Run> runs, int machine, int show, int reel, Reel piece, int due,
            int arrival, boolean carried) {
        Run before = lastOf(runs.stream().filter(r -> r.machine == machine).toList());
        boolean plate = before != null && aspectOf(s, before) != piece.aspect;
        int y = (before == null ? 0 : before.end) + (plate ? s.durations.get(1) : 0);
        int start = Math.max(due, Math.max(arrival, y) + s.durations.get(0));
        int repairs = s.breaks.stream().filter(b -> b.show == show && b.reel == reel).mapToInt(b -> b.repair).sum();
        return new Run(show, reel, machine, start, start + piece.length + repairs, due, carried, plate);
    }

    private static int aspectOf(State s, Run run) {
        return s.films.get(s.shows.get(run.show).film).get(run.reel).aspect;
    }

    private static Run lastOf(List<Run> runs) {
        return runs.isEmpty() ? null : runs.get(runs.size() - 1);
    }

    private static int lossOf(State s) {
        int waits = plan(s).stream().mapToInt(r -> r.start - r.due).sum();
        int missed = (int) IntStream.range(0, s.shows.size()).filter(show -> !s.takesPlace(show)).count();
        return waits + 1000 * missed;
    }

    private List<Run> runsOf(int show) {
        return plan(state).stream().filter(r -> r.show == show).toList();
    }

    // ---- the face

    int addReel(int film, int length, int aspect) {
        if (out(film, 0, 3) || out(length, 1, 30) || out(aspect, 0, 2)) return -1;
        if (state.films.get(film).size() == 6) return -3;
        edit();
        state.films.get(film).add(new Reel(length, aspect));
        return state.films.get(film).size();
    }

    int removeReels(int film) {
        if (out(film, 0, 3)) return -1;
        if (state.shows.stream().anyMatch(s -> s.film == film)) return -2;
        edit();
        int before = state.films.get(film).size();
        state.films.get(film).clear();
        return before;
    }

    int setHome(int film, int house) {
        if (out(film, 0, 3) || out(house, 0, 1)) return -1;
        edit();
        return state.homes.set(film, house);
    }

    int filmLength(int film) {
        return out(film, 0, 3) ? -1 : state.films.get(film).stream().mapToInt(Reel::length).sum();
    }

    int addMachine(int house) {
        if (out(house, 0, 1)) return -1;
        if (state.machines.size() == 5) return -3;
        edit();
        state.machines.add(house);
        return state.machines.size() - 1;
    }

    int removeMachine(int machine) {
        if (noMachine(machine)) return -1;
        edit();
        state.machines.remove(machine);
        return state.machines.size();
    }

    int houseOf(int machine) {
        return noMachine(machine) ? -1 : state.machines.get(machine);
    }

    int setCarriers(int carriers) {
        if (out(carriers, 1, 3)) return -1;
        edit();
        int before = state.carriers;
        state.carriers = carriers;
        return before;
    }

    int setDuration(int duration, int minutes) {
        boolean fits = switch (duration) {
            case 0, 1 -> !out(minutes, 0, 10);
            case 2 -> !out(minutes, 0, 15);
            case 3 -> !out(minutes, 1, 30);
            default -> false;
        };
        if (!fits) return -1;
        edit();
        return state.durations.set(duration, minutes);
    }

    int addShow(int house, int film, int start) {
        if (out(house, 0, 1) || out(film, 0, 3) || out(start, 0, 1439)) return -1;
        if (state.films.get(film).isEmpty()) return -2;
        if (state.shows.size() == 6) return -3;
        edit();
        state.shows.add(new Show(house, film, start));
        return state.shows.size() - 1;
    }

    int removeShow(int show) {
        if (noShow(show)) return -1;
        edit();
        state.dropShow(show);
        return state.shows.size();
    }

    int moveShow(int show, int start) {
        if (noShow(show) || out(start, 0, 1439)) return -1;
        edit();
        Show before = state.shows.get(show);
        state.shows.set(show, new Show(before.house, before.film, start));
        return before.start;
    }

    int addBreak(int show, int reel, int repair) {
        if (noReel(show, reel) || out(repair, 1, 60)) return -1;
        if (state.breaks.size() == 8) return -3;
        edit();
        state.breaks.add(new Break(show, reel, repair));
        return state.breaks.size();
    }

    int clearBreaks() {
        edit();
        int before = state.breaks.size();
        state.breaks.clear();
        return before;
    }

    int startOf(int show, int reel) {
        if (noReel(show, reel)) return -1;
        return state.takesPlace(show) ? runsOf(show).get(reel).start : -4;
    }

    int machineOf(int show, int reel) {
        if (noReel(show, reel)) return -1;
        return state.takesPlace(show) ? runsOf(show).get(reel).machine : -4;
    }

    int endOf(int show) {
        if (noShow(show)) return -1;
        return state.takesPlace(show) ? lastOf(runsOf(show)).end : -4;
    }

    int delayOf(int show) {
        if (noShow(show)) return -1;
        return runsOf(show).stream().filter(r -> r.reel == 0).mapToInt(r -> r.start - r.due).sum();
    }

    int gapOf(int show) {
        if (noShow(show)) return -1;
        return runsOf(show).stream().filter(r -> r.reel > 0).mapToInt(r -> r.start - r.due).sum();
    }

    int loss() {
        return lossOf(state);
    }

    int carriedReels() {
        return (int) plan(state).stream().filter(Run::carried).count();
    }

    int plateChanges() {
        return (int) plan(state).stream().filter(Run::plate).count();
    }

    int machineTime(int machine) {
        if (noMachine(machine)) return -1;
        return plan(state).stream().filter(r -> r.machine == machine).mapToInt(r -> r.end - r.start).sum();
    }

    int leastShift(int show) {
        if (noShow(show)) return -1;
        Show before = state.shows.get(show);
        for (int start = before.start; start <= 1439 && start - before.start <= 180; start++) {
            State trial = state.copy();
            trial.shows.set(show, new Show(before.house, before.film, start));
            if (lossOf(trial) == 0) return start - before.start;
        }
        return -4;
    }

    int removalGain(int show) {
        if (noShow(show)) return -1000000;
        State trial = state.copy();
        trial.dropShow(show);
        return lossOf(state) - lossOf(trial);
    }

    int bestHomes() {
        return IntStream.range(0, 16).boxed().min(Comparator.comparingInt(mask -> {
            State trial = state.copy();
            for (int film = 0; film < 4; film++) {
                trial.homes.set(film, mask >> film & 1);
            }
            return lossOf(trial);
        })).orElseThrow();
    }

    int missingMachines(int house) {
        if (out(house, 0, 1)) return -1;
        State trial = state.copy();
        while (lossOf(trial) != 0) {
            if (trial.machines.size() >= 5) return -4;
            trial.machines.add(house);
        }
        return trial.machines.size() - state.machines.size();
    }

    int undo() {
        if (past.isEmpty()) return -2;
        state = past.removeLast();
        return past.size();
    }
}
