import java.util.ArrayList;
import java.util.Arrays;
import java.util.HashMap;
import java.util.LinkedHashMap;
import java.util.List;
import java.util.Map;
import java.util.TreeMap;
import java.util.TreeSet;

/**
 * The document's words, put down once more as they stand and without a thought for speed: runs as texts, states as
 * texts, graphs one by one with every edge, cycles by closing paths. The tests ask it and Fencegate the same.
 */
final class Model {
    record Instruction(char letter, int a, int b, int c) {
    }

    record Store(int cell, int number, boolean marked) {
    }

    static final class State {
        int[] place = new int[3];
        int[][] register = new int[3][2];
        int[] cell = new int[3];
        List<List<Store>> queue = List.of(new ArrayList<>(), new ArrayList<>(), new ArrayList<>());
        boolean[] nextMarked = new boolean[3];

        State copy() {
            State other = new State();
            for (int core = 0; core < 3; core++) {
                other.place[core] = place[core];
                other.register[core] = register[core].clone();
                other.queue.get(core).addAll(queue.get(core));
                other.nextMarked[core] = nextMarked[core];
            }
            other.cell = cell.clone();
            return other;
        }

        String text() {
            return Arrays.toString(place) + Arrays.deepToString(register) + Arrays.toString(cell) + queue
                    + Arrays.toString(nextMarked);
        }

        String outcome() {
            StringBuilder text = new StringBuilder();
            for (int core = 0; core < 3; core++) {
                text.append(register[core][0]).append(register[core][1]);
            }
            for (int number : cell) {
                text.append(number);
            }
            return text.toString();
        }
    }

    final List<List<Instruction>> cores = List.of(new ArrayList<>(), new ArrayList<>(), new ArrayList<>());
    final int[] first = new int[3];

    State firstState() {
        State state = new State();
        state.cell = first.clone();
        return state;
    }

    boolean hasEnded(State state, int core) {
        return state.place[core] >= cores.get(core).size();
    }

    /** The state behind a core's instruction, null if it can't be done. */
    State afterInstruction(State before, int core, char kind, List<Integer> fences) {
        if (hasEnded(before, core)) {
            return null;
        }
        State state = before.copy();
        int place = state.place[core];
        Instruction it = cores.get(core).get(place);
        List<Store> queue = state.queue.get(core);
        int[] register = state.register[core];
        if ("xif".indexOf(it.letter) >= 0 && !queue.isEmpty() || fences.contains(10 * core + place) && !queue.isEmpty()) {
            return null;
        }
        state.place[core]++;
        switch (it.letter) {
            case 'k' -> register[it.a] = it.b;
            case '+' -> register[it.a] = (register[it.b] + register[it.c]) % 8;
            case 'l' -> {
                int number = state.cell[it.b];
                for (Store store : queue) {
                    number = store.cell == it.b ? store.number : number;
                }
                register[it.a] = number;
            }
            case 's' -> {
                if (kind == 's') {
                    state.cell[it.a] = register[it.b];
                } else {
                    queue.add(new Store(it.a, register[it.b], state.nextMarked[core]));
                    state.nextMarked[core] = false;
                }
            }
            case 'x' -> {
                int number = state.cell[it.b];
                state.cell[it.b] = register[it.a];
                register[it.a] = number;
            }
            case 'i' -> {
                int number = state.cell[it.b];
                state.cell[it.b] = (number + register[it.a]) % 8;
                register[it.a] = number;
            }
            case 'j' -> state.place[core] = register[it.a] != 0 ? place + 1 : Math.min(it.b, cores.get(core).size());
            case 'w' -> state.nextMarked[core] |= !queue.isEmpty();
            default -> { }
        }
        return state;
    }

    State afterStore(State before, int core, int index, char kind) {
        List<Store> queue = before.queue.get(core);
        if (index >= queue.size() || index > 0 && kind != 'p') {
            return null;
        }
        for (int i = 0; i < index; i++) {
            if (queue.get(i).cell == queue.get(index).cell || queue.get(i + 1).marked) {
                return null;
            }
        }
        State state = before.copy();
        Store store = state.queue.get(core).remove(index);
        state.cell[store.cell] = store.number;
        return state;
    }

    /** All steps that can be done, each as two signs: the core, and 0 or 1 and the index; in the order of the document. */
    Map<String, State> steps(State state, char kind, List<Integer> fences) {
        Map<String, State> steps = new LinkedHashMap<>();
        for (int core = 0; core < 3; core++) {
            State after = afterInstruction(state, core, kind, fences);
            if (after != null) {
                steps.put(core + "0", after);
            }
            for (int index = 0; index < 3; index++) {
                after = afterStore(state, core, index, kind);
                if (after != null) {
                    steps.put(core + "" + (index + 1), after);
                }
            }
        }
        return steps;
    }

    static final class Found {
        Map<String, State> states = new HashMap<>();
        TreeMap<String, String> runs = new TreeMap<>();
        boolean tooMany;
    }

    /** All states, level by level, with the least run to each compared as a text. */
    Found explore(char kind, List<Integer> fences) {
        Found found = new Found();
        TreeMap<String, State> level = new TreeMap<>(Map.of("", firstState()));
        found.states.put(firstState().text(), firstState());
        while (!level.isEmpty()) {
            Map<String, String> least = new HashMap<>();
            Map<String, State> next = new HashMap<>();
            for (Map.Entry<String, State> at : level.entrySet()) {
                State state = at.getValue();
                boolean ends = true;
                for (int core = 0; core < 3; core++) {
                    ends &= hasEnded(state, core) && state.queue.get(core).isEmpty();
                }
                if (ends) {
                    String old = found.runs.get(state.outcome());
                    if (old == null || old.length() == at.getKey().length() && at.getKey().compareTo(old) < 0) {
                        found.runs.put(state.outcome(), at.getKey());
                    }
                }
                for (Map.Entry<String, State> step : steps(state, kind, fences).entrySet()) {
                    String text = step.getValue().text();
                    if (!found.states.containsKey(text)) {
                        String run = at.getKey() + step.getKey();
                        least.merge(text, run, (p, q) -> p.compareTo(q) <= 0 ? p : q);
                        next.put(text, step.getValue());
                    }
                }
            }
            level = new TreeMap<>();
            for (Map.Entry<String, State> entry : next.entrySet()) {
                level.put(least.get(entry.getKey()), entry.getValue());
                found.states.put(entry.getKey(), entry.getValue());
            }
            if (found.states.size() > 4000) {
                found.tooMany = true;
                return found;
            }
        }
        return found;
    }

    /** The races, in their order. */
    List<Integer> races(Found strict) {
        TreeSet<Integer> races = new TreeSet<>();
        for (State state : strict.states.values()) {
            for (int core = 0; core < 3; core++) {
                for (int other = core + 1; other < 3; other++) {
                    if (!hasEnded(state, core) && !hasEnded(state, other)) {
                        Instruction p = cores.get(core).get(state.place[core]);
                        Instruction q = cores.get(other).get(state.place[other]);
                        boolean plain = "ls".indexOf(p.letter) >= 0 && "ls".indexOf(q.letter) >= 0;
                        boolean same = (p.letter == 'l' ? p.b : p.a) == (q.letter == 'l' ? q.b : q.a);
                        if (plain && same && (p.letter == 's' || q.letter == 's')) {
                            races.add(1000 * core + 100 * state.place[core] + 10 * other + state.place[other]);
                        }
                    }
                }
            }
        }
        return new ArrayList<>(races);
    }

    /** The fewest fences; null if two are not enough, or something has too many states. */
    List<Integer> fences(char kind, TreeSet<String> strict) {
        List<Integer> all = new ArrayList<>();
        for (int core = 0; core < 3; core++) {
            for (int place = 1; place < cores.get(core).size(); place++) {
                all.add(10 * core + place);
            }
        }
        List<List<Integer>> tries = new ArrayList<>();
        tries.add(List.of());
        for (int p : all) {
            tries.add(List.of(p));
        }
        for (int p : all) {
            for (int q : all) {
                if (p < q) {
                    tries.add(List.of(p, q));
                }
            }
        }
        for (List<Integer> fences : tries) {
            Found found = explore(kind, fences);
            if (found.tooMany) {
                return null;
            }
            if (strict.containsAll(found.runs.keySet())) {
                return fences;
            }
        }
        return null;
    }

    // ---- graphs

    /** Something that a core does: number is its index in the core, fences and reckoning included. */
    record Thing(int core, int number, char letter, int cell, int read, int written) {
        boolean reads() {
            return "lxi".indexOf(letter) >= 0;
        }

        boolean writes() {
            return "sxi0".indexOf(letter) >= 0;
        }
    }

    record Doing(List<Thing> things, int[] register) {
    }

    static final class Counts {
        int all;
        int looped;
        int parted;
        int[] disordered = new int[3];
        List<TreeSet<String>> shown = List.of(new TreeSet<>(), new TreeSet<>(), new TreeSet<>());
        long limit;
        boolean tooMuch;
    }

    boolean isSmall() {
        int readers = 0;
        int writers = 0;
        for (List<Instruction> core : cores) {
            for (Instruction it : core) {
                readers += "lxi".indexOf(it.letter) >= 0 ? 1 : 0;
                writers += "sxi".indexOf(it.letter) >= 0 ? 1 : 0;
            }
        }
        return readers <= 4 && writers <= 5;
    }

    private void doings(int core, int place, List<Thing> things, int[] register, List<Doing> into) {
        if (place >= cores.get(core).size()) {
            into.add(new Doing(things, register));
            return;
        }
        Instruction it = cores.get(core).get(place);
        boolean reads = "lxi".indexOf(it.letter) >= 0;
        for (int read = 0; read < (reads ? 8 : 1); read++) {
            int[] r = register.clone();
            List<Thing> done = new ArrayList<>(things);
            int next = place + 1;
            int written = 0;
            switch (it.letter) {
                case 'k' -> r[it.a] = it.b;
                case '+' -> r[it.a] = (r[it.b] + r[it.c]) % 8;
                case 'l' -> r[it.a] = read;
                case 's' -> written = r[it.b];
                case 'x' -> {
                    written = r[it.a];
                    r[it.a] = read;
                }
                case 'i' -> {
                    written = (read + r[it.a]) % 8;
                    r[it.a] = read;
                }
                case 'j' -> next = r[it.a] == 0 ? it.b : next;
                default -> { }
            }
            int cell = it.letter == 's' ? it.a : it.b;
            done.add(new Thing(core, done.size(), it.letter, cell, read, written));
            doings(core, next, done, r, into);
        }
    }

    Counts graphs(long limit) {
        Counts counts = new Counts();
        counts.limit = limit;
        List<List<Doing>> all = new ArrayList<>();
        for (int core = 0; core < 3; core++) {
            List<Doing> doings = new ArrayList<>();
            doings(core, 0, List.of(), new int[2], doings);
            all.add(doings);
        }
        for (Doing p : all.get(0)) {
            for (Doing q : all.get(1)) {
                for (Doing r : all.get(2)) {
                    withReads(List.of(p, q, r), counts);
                    if (counts.tooMuch) {
                        return counts;
                    }
                }
            }
        }
        return counts;
    }

    private void withReads(List<Doing> doings, Counts counts) {
        List<Thing> things = new ArrayList<>();
        for (int cell = 0; cell < 3; cell++) {
            things.add(new Thing(-1, 0, '0', cell, 0, first[cell]));
        }
        StringBuilder registers = new StringBuilder();
        for (Doing doing : doings) {
            things.addAll(doing.things);
            registers.append(doing.register[0]).append(doing.register[1]);
        }
        things.removeIf(thing -> !thing.reads() && !thing.writes());
        int[] from = new int[things.size()];
        chooseSource(doings, things, 0, from, registers.toString(), counts);
    }

    private void chooseSource(List<Doing> doings, List<Thing> things, int at, int[] from, String registers, Counts counts) {
        if (at == things.size()) {
            chooseOrder(doings, things, from, new ArrayList<>(List.of(0, 1, 2)), registers, counts);
            return;
        }
        from[at] = -1;
        if (!things.get(at).reads()) {
            chooseSource(doings, things, at + 1, from, registers, counts);
            return;
        }
        for (int source = 0; source < things.size(); source++) {
            Thing it = things.get(source);
            if (source != at && it.writes() && it.cell == things.get(at).cell && it.written == things.get(at).read) {
                from[at] = source;
                chooseSource(doings, things, at + 1, from, registers, counts);
            }
        }
    }

    /** Orders of all cells, as one list in which each cell's writers stand cell by cell. */
    private void chooseOrder(List<Doing> doings, List<Thing> things, int[] from, List<Integer> order, String registers,
            Counts counts) {
        int cell = -1;
        for (int i = 3; i < things.size() && cell < 0; i++) {
            cell = things.get(i).writes() && !order.contains(i) ? things.get(i).cell : -1;
        }
        for (int c = 0; c < 3; c++) {
            for (int i = 3; i < things.size() && cell != c; i++) {
                if (things.get(i).writes() && !order.contains(i) && things.get(i).cell == c && c < cell) {
                    cell = c;
                }
            }
        }
        if (cell < 0) {
            judge(doings, things, from, order, registers, counts);
            return;
        }
        for (int i = 3; i < things.size(); i++) {
            if (things.get(i).writes() && things.get(i).cell == cell && !order.contains(i)) {
                order.add(i);
                chooseOrder(doings, things, from, order, registers, counts);
                order.remove(order.size() - 1);
            }
        }
    }

    private void judge(List<Doing> doings, List<Thing> things, int[] from, List<Integer> order, String registers,
            Counts counts) {
        counts.all++;
        if (counts.all > counts.limit) {
            counts.tooMuch = true;
            return;
        }
        int n = things.size();
        boolean[][] cells = new boolean[n][n];
        boolean[][] later = new boolean[n][n];
        for (int i = 0; i < n; i++) {
            for (int j = 0; j < n; j++) {
                boolean same = things.get(i).cell == things.get(j).cell;
                cells[i][j] = same && things.get(i).writes() && things.get(j).writes() && order.indexOf(i) < order.indexOf(j);
            }
        }
        for (int i = 0; i < n; i++) {
            for (int j = 0; j < n; j++) {
                later[i][j] = from[i] >= 0 && i != j && cells[from[i]][j];
            }
        }
        if (hasCycle(edges(doings, things, from, cells, later, 'c', 's'))) {
            counts.looped++;
            return;
        }
        for (int i = 0; i < n; i++) {
            Thing it = things.get(i);
            boolean isJustBehind = from[i] < 0 || cells[from[i]][i];
            for (int j = 0; j < n && isJustBehind; j++) {
                isJustBehind = from[i] < 0 || !(cells[from[i]][j] && cells[j][i]);
            }
            if ((it.letter == 'x' || it.letter == 'i') && !isJustBehind) {
                counts.parted++;
                return;
            }
        }
        StringBuilder outcome = new StringBuilder(registers);
        for (int cell = 0; cell < 3; cell++) {
            int last = 0;
            for (int i : order) {
                last = things.get(i).cell == cell ? things.get(i).written : last;
            }
            outcome.append(last);
        }
        for (int kind = 0; kind < 3; kind++) {
            if (hasCycle(edges(doings, things, from, cells, later, 'o', "stp".charAt(kind)))) {
                counts.disordered[kind]++;
            } else {
                counts.shown.get(kind).add(outcome.toString());
            }
        }
    }

    private boolean[][] edges(List<Doing> doings, List<Thing> things, int[] from, boolean[][] cells, boolean[][] later,
            char rule, char kind) {
        int n = things.size();
        boolean[][] edge = new boolean[n][n];
        for (int i = 0; i < n; i++) {
            for (int j = 0; j < n; j++) {
                Thing p = things.get(i);
                Thing q = things.get(j);
                boolean inOrder = p.core >= 0 && p.core == q.core && p.number < q.number;
                boolean read = from[j] == i;
                boolean kept = inOrder && (rule == 'c' ? p.cell == q.cell : isKept(doings, p, q, kind));
                boolean counts = read && (rule == 'c' || kind == 's' || p.core != q.core);
                edge[i][j] = cells[i][j] || later[i][j] || kept || counts;
            }
        }
        return edge;
    }

    private boolean isKept(List<Doing> doings, Thing p, Thing q, char kind) {
        boolean full = false;
        boolean some = false;
        for (Thing it : doings.get(p.core).things) {
            if (it.number > p.number && it.number < q.number) {
                full |= "fxi".indexOf(it.letter) >= 0;
                some |= "fxiw".indexOf(it.letter) >= 0;
            }
        }
        if (kind == 's') {
            return true;
        }
        if (p.letter == 's' && q.letter == 'l' && !full) {
            return false;
        }
        return !(kind == 'p' && p.letter == 's' && q.letter == 's' && !some);
    }

    private static boolean hasCycle(boolean[][] edge) {
        int n = edge.length;
        for (int k = 0; k < n; k++) {
            for (int i = 0; i < n; i++) {
                for (int j = 0; j < n; j++) {
                    edge[i][j] |= edge[i][k] && edge[k][j];
                }
            }
        }
        for (int i = 0; i < n; i++) {
            if (edge[i][i]) {
                return true;
            }
        }
        return false;
    }
}
