import java.util.ArrayList;
import java.util.Arrays;
import java.util.List;
import java.util.Map;
import java.util.TreeSet;

/** Many small programs, made by a row of numbers that is always the same; Fencegate and the model are asked the same. */
final class ModelTest {
    private static final char[] KINDS = {'s', 't', 'p'};
    private static Pick picks = new Pick(1);
    private static int compared = 0;
    private static int tooMany = 0;
    private static int notSmall = 0;
    private static int tooMuch = 0;
    private static int graphsCompared = 0;
    private static int notSame = 0;
    private static int[] fenced = new int[4];

    private static int pick(int end) {
        return picks.below(end);
    }

    /** Without arguments, some 900 programs; else how many, and a number that leads to others. */
    public static void main(String[] args) {
        int programs = args.length > 0 ? Integer.parseInt(args[0]) : 900;
        picks = new Pick(args.length > 1 ? Long.parseLong(args[1]) : 1);
        Fencegate used = new Fencegate();
        for (int i = 0; i < programs; i++) {
            int style = i % 7;
            // every other object has had another program before: what it has kept must be forgotten
            Fencegate gate = i % 2 == 0 ? new Fencegate() : used;
            used = gate;
            Model model = new Model();
            fill(gate, model, style);
            String name = "program " + i + ": " + textOf(model);
            compareStates(name, gate, model, i % 5 < 2);
            if (i % 2 == 0 || style < 3) {
                compareGraphs(name, gate, model);
            }
            compareMachine(name, gate, model);
        }
        System.out.println("compared " + compared + ", too many states " + tooMany + ", too much for graphs " + notSmall
                + ", too much for the model " + tooMuch + ", outcomes and graphs " + graphsCompared + ", not the same " + notSame
                + ", fences " + Arrays.toString(fenced));
        Check.holds("programs of all sorts", args.length > 0 || tooMany > 0 && notSmall > 0 && fenced[0] > 0 && fenced[1] > 0
                && fenced[2] > 0 && fenced[3] > 0);
        Check.report("ModelTest");
    }

    private static String textOf(Model model) {
        StringBuilder text = new StringBuilder();
        for (List<Model.Instruction> core : model.cores) {
            for (Model.Instruction it : core) {
                text.append(it.letter()).append(it.a()).append(it.b()).append(it.c()).append(' ');
            }
            text.append("| ");
        }
        return text.append(Arrays.toString(model.first)).toString();
    }

    /** Gives the gate another program, and the model the same. */
    private static void fill(Fencegate gate, Model model, int style) {
        String[] letters = {"ssll", "sssllwl", "sslxil+", "kslxi+jwf", "ssllk", "ssslllwjfxi"};
        int ring = 2 + pick(2);
        for (int core = 0; core < 3; core++) {
            List<Model.Instruction> into = model.cores.get(core);
            if (style < letters.length) {
                fillMixed(into, core, letters[style]);
            } else if (core < ring) {
                fillRing(into, core, ring);
            }
            gate.clear(core);
            for (Model.Instruction it : into) {
                gate.add(core, it.letter(), it.a(), it.b(), it.c());
            }
        }
        for (int cell = 0; cell < 3; cell++) {
            model.first[cell] = pick(4) == 0 ? pick(8) : 0;
            gate.setFirst(cell, model.first[cell]);
        }
    }

    private static void fillMixed(List<Model.Instruction> into, int core, String letters) {
        int size = core == 2 ? Math.max(0, pick(12) - 6) : pick(12) == 0 ? 0 : 3 + pick(3);
        for (int i = 0; i < size; i++) {
            if (i == 0 && pick(8) > 0) {
                into.add(new Model.Instruction('k', 0, 1 + core, 0));
            } else {
                addAny(into, letters);
            }
        }
    }

    /** Each core stores one cell and loads what the next core stores: there the queues show most. */
    private static void fillRing(List<Model.Instruction> into, int core, int ring) {
        into.add(new Model.Instruction('k', 0, 1 + core, 0));
        into.add(new Model.Instruction('s', core, 0, 0));
        if (pick(8) == 0) {
            addAny(into, "slwfk");
        }
        int next = (core + 1) % ring;
        into.add(pick(3) == 0 ? new Model.Instruction('s', next, 0, 0) : new Model.Instruction('l', 1, next, 0));
        if (ring == 2 && pick(2) == 0) {
            into.add(new Model.Instruction('l', 0, core, 0));
        }
    }

    private static void addAny(List<Model.Instruction> into, String letters) {
        char letter = letters.charAt(pick(letters.length()));
        if (letter == 's' && into.stream().filter(it -> it.letter() == 's').count() == 3) {
            return;
        }
        int cells = pick(8) == 0 ? 3 : 2;
        // mostly one register for what is stored and another for what is loaded, so that little is lost
        int a = letter == 's' ? pick(cells) : letter == 'l' ? 1 - pick(5) / 4 : pick(3) / 2;
        int b = switch (letter) {
            case 'k' -> pick(8);
            case 'j' -> into.size() + 1 + pick(5 - into.size());
            case 'l', 'x', 'i' -> pick(cells);
            default -> pick(4) / 3;
        };
        into.add(new Model.Instruction(letter, a, b, pick(2)));
    }

    private static void compareStates(String name, Fencegate gate, Model model, boolean withFences) {
        Model.Found strict = model.explore('s', List.of());
        for (char kind : KINDS) {
            Model.Found found = model.explore(kind, List.of());
            String at = name + " kind " + kind;
            if (found.tooMany) {
                tooMany++;
                Check.fails(at + " states", "UnsupportedOperationException", () -> gate.states(kind));
                Check.fails(at + " outcomes", "UnsupportedOperationException", () -> gate.outcomes(kind));
                Check.fails(at + " fences", "UnsupportedOperationException", () -> gate.fences(kind));
                Check.holds(at + " isSame", gate.isSame(kind));
                continue;
            }
            compared++;
            Check.same(at + " states", gate.states(kind), found.states.size());
            compareOutcomes(at, gate, kind, found, strict);
            if (withFences) {
                compareFences(at, gate, kind, model, strict);
            }
        }
        if (strict.tooMany) {
            Check.fails(name + " races", "UnsupportedOperationException", gate::races);
        } else {
            List<Integer> races = new ArrayList<>();
            for (int i = 0; i < gate.races(); i++) {
                races.add(gate.raceAt(i));
            }
            Check.same(name + " races", races, model.races(strict));
        }
    }

    private static void compareOutcomes(String at, Fencegate gate, char kind, Model.Found found, Model.Found strict) {
        Check.same(at + " outcomes", gate.outcomes(kind), found.runs.size());
        int index = 0;
        int shared = 0;
        long sum = 0;
        for (Map.Entry<String, String> run : found.runs.entrySet()) {
            StringBuilder outcome = new StringBuilder();
            for (int what = 0; what < 9; what++) {
                outcome.append(gate.outcomeAt(kind, index, what));
            }
            Check.same(at + " outcome " + index, outcome.toString(), run.getKey());
            StringBuilder steps = new StringBuilder();
            int length = gate.shortest(kind, index);
            for (int i = 0; i < length; i++) {
                int step = gate.stepAt(kind, index, i);
                steps.append(step / 10).append(step % 10);
            }
            Check.same(at + " run to " + run.getKey(), steps.toString(), run.getValue());
            boolean isStrict = strict.runs.containsKey(run.getKey());
            Check.same(at + " isStrict " + index, gate.isStrict(kind, index), isStrict);
            shared += isStrict ? 1 : 0;
            sum += length;
            index++;
        }
        Check.same(at + " allSteps", gate.allSteps(kind), sum);
        Check.same(at + " strictShare", gate.strictShare(kind), (float) shared / (float) index);
        Check.same(at + " meanLength", gate.meanLength(kind), (double) sum / (double) index);
        int last = pick(index);
        Check.same(at + " play", gate.play(kind, last), gate.shortest(kind, last));
        Check.same(at + " played to", gate.register(1, 0) + 10 * gate.cell(1), gate.outcomeAt(kind, last, 2)
                + 10 * gate.outcomeAt(kind, last, 7));
        Check.same(at + " choices in the end", gate.choices(), 0);
        Check.same(at + " the kind in the end", gate.setKind('s'), kind);
    }

    private static void compareFences(String at, Fencegate gate, char kind, Model model, Model.Found strict) {
        List<Integer> fences = model.fences(kind, new TreeSet<>(strict.runs.keySet()));
        fenced[fences == null ? 3 : fences.size()]++;
        if (fences == null) {
            Check.fails(at + " fences", "UnsupportedOperationException", () -> gate.fences(kind));
            Check.fails(at + " fenceAt", "UnsupportedOperationException", () -> gate.fenceAt(kind, -1));
            return;
        }
        Check.same(at + " fences", gate.fences(kind), fences.size());
        for (int i = 0; i < fences.size(); i++) {
            Check.same(at + " fence " + i, gate.fenceAt(kind, i), fences.get(i));
        }
        Check.fails(at + " no fence", "IndexOutOfBoundsException", () -> gate.fenceAt(kind, fences.size()));
    }

    private static void compareGraphs(String name, Fencegate gate, Model model) {
        if (!model.isSmall()) {
            notSmall++;
            Check.fails(name + " graphs", "UnsupportedOperationException", gate::graphs);
            Check.holds(name + " isSame", gate.isSame('p'));
            return;
        }
        Model.Counts counts = model.graphs(20000);
        if (counts.tooMuch) {
            tooMuch++;
            return;
        }
        Check.same(name + " graphs", gate.graphs(), counts.all);
        for (int k = 0; k < 3; k++) {
            char kind = KINDS[k];
            TreeSet<String> shown = counts.shown.get(k);
            Check.same(name + " broken c", gate.broken(kind, 'c'), counts.looped);
            Check.same(name + " broken a", gate.broken(kind, 'a'), counts.parted);
            Check.same(name + " broken o " + kind, gate.broken(kind, 'o'), counts.disordered[k]);
            Check.same(name + " allowed " + kind, gate.allowed(kind), shown.size());
            int core = pick(3);
            for (int two = 0; two < 64; two++) {
                String wanted = "" + two / 8 + two % 8;
                boolean is = shown.stream().anyMatch(it -> it.startsWith(wanted, 2 * core));
                Check.same(name + " isAllowed " + kind + core + wanted, gate.isAllowed(kind, core, two / 8, two % 8), is);
            }
            Model.Found found = model.explore(kind, List.of());
            boolean isSame = found.tooMany || found.runs.keySet().equals(shown);
            graphsCompared += found.tooMany ? 0 : 1;
            notSame += isSame ? 0 : 1;
            Check.same(name + " isSame " + kind, gate.isSame(kind), isSame);
        }
    }

    /** Steps that pick() chooses, on the machine and on the model's state. */
    private static void compareMachine(String name, Fencegate gate, Model model) {
        char kind = KINDS[pick(3)];
        gate.setKind(kind);
        Model.State state = model.firstState();
        for (int i = 0; i < 30; i++) {
            Check.same(name + " choices", gate.choices(), model.steps(state, kind, List.of()).size());
            int core = pick(3);
            int index = pick(4) - 1;
            Model.State before = state;
            Model.State after;
            if (index < 0) {
                after = model.afterInstruction(state, core, kind, List.of());
                Object due = model.hasEnded(before, core) ? "NoSuchElementException" : (Object) (after != null);
                Check.same(name + " step", Check.of(() -> gate.step(core)), due);
            } else {
                after = model.afterStore(state, core, index, kind);
                Object due = index >= before.queue.get(core).size() ? "NoSuchElementException" : (Object) (after != null);
                Check.same(name + " drain", Check.of(() -> gate.drain(core, index)), due);
            }
            state = after == null ? state : after;
            compareLive(name, gate, state);
        }
    }

    private static void compareLive(String name, Fencegate gate, Model.State state) {
        for (int core = 0; core < 3; core++) {
            Check.same(name + " place", gate.place(core), state.place[core]);
            Check.same(name + " register 0", gate.register(core, 0), state.register[core][0]);
            Check.same(name + " register 1", gate.register(core, 1), state.register[core][1]);
            Check.same(name + " cell", gate.cell(core), state.cell[core]);
            List<Model.Store> queue = state.queue.get(core);
            Check.same(name + " queue", gate.queue(core), queue.size());
            for (int i = 0; i < queue.size(); i++) {
                Model.Store it = queue.get(i);
                int due = 10 * it.cell() + it.number() + (it.marked() ? 100 : 0);
                Check.same(name + " storeAt", gate.storeAt(core, i), due);
            }
        }
    }
}
