import java.util.ArrayList;
import java.util.HashMap;
import java.util.List;
import java.util.Map;
import java.util.TreeSet;

/**
 * What is due for each call of the face, by the model: an answer, or the name of the exception that the document lists
 * first. It keeps program and machine as an object does, but looks each outcome, graph, race and fence up in the model.
 */
final class Mirror {
    static final String INDEX = "IndexOutOfBoundsException";
    static final String ARGUMENT = "IllegalArgumentException";
    static final String STATE = "IllegalStateException";
    static final String UNSUPPORTED = "UnsupportedOperationException";
    static final String ELEMENT = "NoSuchElementException";
    /** More graphs than this are too slow for the model. */
    private static final int GRAPHS = 4000;
    /** Fences are only looked up for programs with at most so many states. */
    private static final int FENCED_STATES = 250;

    final Model model = new Model();
    private Model.State now = model.firstState();
    private char kindNow = 's';
    private final Map<Character, Model.Found> found = new HashMap<>();
    private final Map<Character, List<Integer>> fences = new HashMap<>();
    private Model.Counts counts;

    private static boolean isBelow(int number, int end) {
        return 0 <= number && number < end;
    }

    private static boolean isKind(char kind) {
        return kind == 's' || kind == 't' || kind == 'p';
    }

    private void changed() {
        now = model.firstState();
        found.clear();
        fences.clear();
        counts = null;
    }

    // ---- programs

    Object add(int core, char letter, int a, int b, int c) {
        if (!isBelow(core, 3)) {
            return INDEX;
        }
        List<Model.Instruction> into = model.cores.get(core);
        boolean good = switch (letter) {
            case 'k' -> isBelow(a, 2) && isBelow(b, 8);
            case '+' -> isBelow(a, 2) && isBelow(b, 2) && isBelow(c, 2);
            case 'l', 'x', 'i' -> isBelow(a, 2) && isBelow(b, 3);
            case 's' -> isBelow(a, 3) && isBelow(b, 2);
            case 'j' -> isBelow(a, 2) && into.size() < b && b <= 5;
            case 'w', 'f' -> true;
            default -> false;
        };
        if (!good) {
            return ARGUMENT;
        }
        if (into.size() == 5 || letter == 's' && into.stream().filter(it -> it.letter() == 's').count() == 3) {
            return STATE;
        }
        into.add(new Model.Instruction(letter, a, b, c));
        changed();
        return into.size() - 1;
    }

    Object clear(int core) {
        if (!isBelow(core, 3)) {
            return INDEX;
        }
        int before = model.cores.get(core).size();
        model.cores.get(core).clear();
        changed();
        return before;
    }

    Object setFirst(int cell, int number) {
        if (!isBelow(cell, 3)) {
            return INDEX;
        }
        if (!isBelow(number, 8)) {
            return ARGUMENT;
        }
        int before = model.first[cell];
        model.first[cell] = number;
        changed();
        return before;
    }

    // ---- the machine

    Object setKind(char kind) {
        if (!isKind(kind)) {
            return ARGUMENT;
        }
        char before = kindNow;
        kindNow = kind;
        now = model.firstState();
        return before;
    }

    private boolean goesTo(Model.State after) {
        now = after == null ? now : after;
        return after != null;
    }

    Object step(int core) {
        if (!isBelow(core, 3)) {
            return INDEX;
        }
        return model.hasEnded(now, core) ? ELEMENT : (Object) goesTo(model.afterInstruction(now, core, kindNow, List.of()));
    }

    Object drain(int core, int index) {
        if (!isBelow(core, 3)) {
            return INDEX;
        }
        return !isBelow(index, now.queue.get(core).size()) ? ELEMENT : (Object) goesTo(model.afterStore(now, core, index, kindNow));
    }

    Object place(int core) {
        return isBelow(core, 3) ? (Object) now.place[core] : INDEX;
    }

    Object register(int core, int register) {
        return isBelow(core, 3) && isBelow(register, 2) ? (Object) now.register[core][register] : INDEX;
    }

    Object cell(int cell) {
        return isBelow(cell, 3) ? (Object) now.cell[cell] : INDEX;
    }

    Object queue(int core) {
        return isBelow(core, 3) ? (Object) now.queue.get(core).size() : INDEX;
    }

    Object storeAt(int core, int index) {
        if (!isBelow(core, 3)) {
            return INDEX;
        }
        if (!isBelow(index, now.queue.get(core).size())) {
            return ELEMENT;
        }
        Model.Store it = now.queue.get(core).get(index);
        return 10 * it.cell() + it.number() + (it.marked() ? 100 : 0);
    }

    Object choices() {
        return model.steps(now, kindNow, List.of()).size();
    }

    Object play(char kind, int index) {
        Object refusal = noOutcome(kind, index);
        if (refusal != null) {
            return refusal;
        }
        kindNow = kind;
        now = model.firstState();
        String run = runTo(kind, index);
        for (int i = 0; i < run.length(); i += 2) {
            now = model.steps(now, kind, List.of()).get(run.substring(i, i + 2));
        }
        return run.length() / 2;
    }

    // ---- outcomes

    private Model.Found foundIn(char kind) {
        return found.computeIfAbsent(kind, it -> model.explore(it, List.of()));
    }

    private Object noStates(char kind) {
        return !isKind(kind) ? ARGUMENT : foundIn(kind).tooMany ? UNSUPPORTED : null;
    }

    private Object noOutcome(char kind, int index) {
        Object refusal = noStates(kind);
        return refusal == null && !isBelow(index, foundIn(kind).runs.size()) ? INDEX : refusal;
    }

    private String outcome(char kind, int index) {
        return new ArrayList<>(foundIn(kind).runs.keySet()).get(index);
    }

    private String runTo(char kind, int index) {
        return new ArrayList<>(foundIn(kind).runs.values()).get(index);
    }

    Object states(char kind) {
        Object refusal = noStates(kind);
        return refusal != null ? refusal : foundIn(kind).states.size();
    }

    Object outcomes(char kind) {
        Object refusal = noStates(kind);
        return refusal != null ? refusal : foundIn(kind).runs.size();
    }

    Object outcomeAt(char kind, int index, int what) {
        if (isKind(kind) && !isBelow(what, 9)) {
            return ARGUMENT;
        }
        Object refusal = noOutcome(kind, index);
        return refusal != null ? refusal : outcome(kind, index).charAt(what) - '0';
    }

    Object shortest(char kind, int index) {
        Object refusal = noOutcome(kind, index);
        return refusal != null ? refusal : runTo(kind, index).length() / 2;
    }

    Object stepAt(char kind, int index, int step) {
        Object refusal = noOutcome(kind, index);
        if (refusal != null) {
            return refusal;
        }
        String run = runTo(kind, index);
        return isBelow(step, run.length() / 2) ? Integer.parseInt(run.substring(2 * step, 2 * step + 2)) : (Object) INDEX;
    }

    Object isStrict(char kind, int index) {
        Object refusal = noOutcome(kind, index);
        return refusal != null ? refusal : foundIn('s').runs.containsKey(outcome(kind, index));
    }

    // ---- graphs

    /** Whether the model can tell what is due for a call about graphs. */
    boolean knowsGraphs() {
        return !model.isSmall() || !countsNow().tooMuch;
    }

    private Model.Counts countsNow() {
        counts = counts == null ? model.graphs(GRAPHS) : counts;
        return counts;
    }

    Object graphs() {
        return model.isSmall() ? (Object) countsNow().all : UNSUPPORTED;
    }

    Object broken(char kind, char rule) {
        if (!isKind(kind) || "cao".indexOf(rule) < 0) {
            return ARGUMENT;
        }
        if (!model.isSmall()) {
            return UNSUPPORTED;
        }
        return rule == 'c' ? countsNow().looped : rule == 'a' ? countsNow().parted : countsNow().disordered["stp".indexOf(kind)];
    }

    private TreeSet<String> shown(char kind) {
        return countsNow().shown.get("stp".indexOf(kind));
    }

    Object allowed(char kind) {
        return !isKind(kind) ? ARGUMENT : model.isSmall() ? (Object) shown(kind).size() : UNSUPPORTED;
    }

    Object isAllowed(char kind, int core, int first, int second) {
        if (!isKind(kind)) {
            return ARGUMENT;
        }
        if (!isBelow(core, 3)) {
            return INDEX;
        }
        if (!model.isSmall()) {
            return UNSUPPORTED;
        }
        return shown(kind).stream().anyMatch(it -> it.charAt(2 * core) - '0' == first && it.charAt(2 * core + 1) - '0' == second);
    }

    Object isSame(char kind) {
        if (!isKind(kind)) {
            return ARGUMENT;
        }
        return !model.isSmall() || foundIn(kind).tooMany || foundIn(kind).runs.keySet().equals(shown(kind));
    }

    // ---- races and fences

    Object races() {
        return foundIn('s').tooMany ? UNSUPPORTED : (Object) model.races(foundIn('s')).size();
    }

    Object raceAt(int index) {
        if (foundIn('s').tooMany) {
            return UNSUPPORTED;
        }
        List<Integer> races = model.races(foundIn('s'));
        return isBelow(index, races.size()) ? (Object) races.get(index) : INDEX;
    }

    /** Whether the model can tell soon enough what is due for a call about fences. */
    boolean knowsFences(char kind) {
        return !isKind(kind) || foundIn(kind).tooMany || foundIn(kind).states.size() <= FENCED_STATES;
    }

    private List<Integer> fencesIn(char kind) {
        if (!fences.containsKey(kind)) {
            fences.put(kind, model.fences(kind, new TreeSet<>(foundIn('s').runs.keySet())));
        }
        return fences.get(kind);
    }

    Object fences(char kind) {
        Object refusal = noStates(kind);
        return refusal != null ? refusal : fencesIn(kind) == null ? UNSUPPORTED : (Object) fencesIn(kind).size();
    }

    Object fenceAt(char kind, int index) {
        Object refusal = noStates(kind);
        if (refusal != null || fencesIn(kind) == null) {
            return refusal != null ? refusal : UNSUPPORTED;
        }
        return isBelow(index, fencesIn(kind).size()) ? (Object) fencesIn(kind).get(index) : INDEX;
    }

    private long stepsOfAll(char kind) {
        return foundIn(kind).runs.values().stream().mapToLong(it -> it.length() / 2).sum();
    }

    Object allSteps(char kind) {
        Object refusal = noStates(kind);
        return refusal != null ? refusal : stepsOfAll(kind);
    }

    Object strictShare(char kind) {
        Object refusal = noStates(kind);
        if (refusal != null) {
            return refusal;
        }
        long strict = foundIn(kind).runs.keySet().stream().filter(foundIn('s').runs::containsKey).count();
        return (float) strict / (float) foundIn(kind).runs.size();
    }

    Object meanLength(char kind) {
        Object refusal = noStates(kind);
        return refusal != null ? refusal : (Object) ((double) stepsOfAll(kind) / (double) foundIn(kind).runs.size());
    }
}
