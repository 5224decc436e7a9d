import java.util.Map;
import java.util.TreeMap;

/**
 * Runs of up to 512 calls on one object each, all calls of the face in no order, with good arguments and wrong ones: each
 * answer, and each exception, must be the one that the mirror has, which stands beside and is asked the same.
 */
final class RunTest {
    private static final int CALLS = 512;
    private static final int CHAPTER = 64;
    private static final int NO_RING = -1;
    private static Pick picks;
    private static Fencegate gate;
    private static Mirror mirror;
    private static String name;
    private static final Map<String, Integer> answers = new TreeMap<>();
    private static final Map<String, Integer> refusals = new TreeMap<>();

    /** Without arguments, 60 runs; else how many, and a number that leads to others. */
    public static void main(String[] args) {
        int runs = args.length > 0 ? Integer.parseInt(args[0]) : 60;
        picks = new Pick(args.length > 1 ? Long.parseLong(args[1]) : 5);
        for (int run = 0; run < runs; run++) {
            gate = new Fencegate();
            mirror = new Mirror();
            String letters = run % 3 == 0 ? "" : run % 3 == 1 ? "xi+jwf" : "sssw+";
            for (int call = 0; call < CALLS; call++) {
                name = "run " + run + " call " + call + ": ";
                aCall(letters, call);
            }
        }
        System.out.println("answers " + answers);
        System.out.println("refusals " + refusals);
        Check.same("methods that have answered", answers.size(), 31);
        // choices() refuses nothing, and a program with too many states for races() may not come up
        Check.holds("methods that have refused", refusals.size() >= 29);
        Check.report("RunTest");
    }

    /** Asks the object and its mirror the same. */
    private static void same(String method, String arguments, Check.Call asked, Object due) {
        Object got = Check.of(asked);
        Map<String, Integer> into = due instanceof String ? refusals : answers;
        into.merge(method, 1, Integer::sum);
        Check.same(name + method + "(" + arguments + ") of " + mirror.model.cores, got, due);
    }

    /** A run has chapters: a program, and then calls that mostly leave it as it is. */
    private static void aCall(String letters, int call) {
        int line = call % CHAPTER;
        boolean isLive = call / CHAPTER % 3 == 1;
        int what = picks.below(100);
        if (line < 3) {
            aClear(what < 80 ? line : index(3));
        } else if (line < 13 || what < 2) {
            anAdd(letters, what % 8 > 0 ? line - 3 : NO_RING, call / CHAPTER % 5 < 4 ? 2 : 3);
        } else if (what < 4) {
            int cell = index(3);
            int number = index(8);
            same("setFirst", cell + ", " + number, () -> gate.setFirst(cell, number), mirror.setFirst(cell, number));
        } else if (what < (isLive ? 98 : 25)) {
            machine(picks.below(100));
        } else if (what < 55) {
            outcomes(picks.below(7), kind(), index(5));
        } else if (what < 75) {
            graphs(picks.below(5), kind());
        } else {
            racesAndFences(picks.below(7), kind(), index(3));
        }
    }

    /** Mostly a good index, and now and then one that is not. */
    private static int index(int end) {
        int[] edges = {-1, end, end + 1, Integer.MIN_VALUE, Integer.MAX_VALUE, end - 1, 0};
        return picks.below(12) == 0 ? edges[picks.below(edges.length)] : picks.below(end);
    }

    private static char kind() {
        return picks.below(20) == 0 ? picks.of("xSTPqoru012\0\uffff") : picks.of("sttppp");
    }

    private static void aClear(int core) {
        same("clear", "" + core, () -> gate.clear(core), mirror.clear(core));
    }

    /** Any instruction; or one of a ring, in which each core stores one cell and loads what the next core stores. */
    private static void anAdd(String letters, int line, int ring) {
        if (letters.isEmpty() && line >= 0 && line < 3 * ring) {
            int core = line / 3;
            switch (line % 3) {
                case 0 -> askAdd(core, 'k', 0, 1 + core, 0);
                case 1 -> askAdd(core, 's', core, 0, 0);
                default -> askAdd(core, 'l', 1, (core + 1) % ring, 0);
            }
            return;
        }
        char letter = picks.below(30) == 0 ? picks.of("mKvy-\0\uffff,") : picks.of(letters + "kslw");
        int core = index(3);
        int size = mirror.model.cores.get(Math.floorMod(core, 3)).size();
        int a = index(letter == 's' ? 3 : 2);
        int b = letter == 'k' ? index(8) : letter == 'j' ? size + 1 + index(Math.max(1, 5 - size)) : index(letter == 's' ? 2 : 3);
        askAdd(core, letter, a, b, index(2));
    }

    private static void askAdd(int core, char letter, int a, int b, int c) {
        same("add", core + ", " + letter + ", " + a + ", " + b + ", " + c, () -> gate.add(core, letter, a, b, c),
                mirror.add(core, letter, a, b, c));
    }

    private static void machine(int what) {
        int core = picks.below(4) == 0 ? index(3) : waiting();
        int index = index(2);
        if (what < 5) {
            char kind = kind();
            same("setKind", "" + kind, () -> gate.setKind(kind), mirror.setKind(kind));
        } else if (what < 40) {
            int any = index(3);
            same("step", "" + any, () -> gate.step(any), mirror.step(any));
        } else if (what < 55) {
            same("drain", core + ", " + index, () -> gate.drain(core, index), mirror.drain(core, index));
        } else {
            look(what % 6, core, index);
        }
    }

    /** A core whose queue has stores, or any one: wrong calls come up by themselves. */
    private static int waiting() {
        int core = picks.below(3);
        for (int i = 0; i < 3; i++) {
            if (!mirror.queue((core + i) % 3).equals(0)) {
                return (core + i) % 3;
            }
        }
        return core;
    }

    private static void look(int method, int core, int index) {
        switch (method) {
            case 0 -> same("place", "" + core, () -> gate.place(core), mirror.place(core));
            case 1 -> same("register", core + ", " + index, () -> gate.register(core, index), mirror.register(core, index));
            case 2 -> same("cell", "" + core, () -> gate.cell(core), mirror.cell(core));
            case 3 -> same("queue", "" + core, () -> gate.queue(core), mirror.queue(core));
            case 4 -> same("storeAt", core + ", " + index, () -> gate.storeAt(core, index), mirror.storeAt(core, index));
            default -> same("choices", "", gate::choices, mirror.choices());
        }
    }

    private static void outcomes(int method, char kind, int index) {
        int number = index(9);
        String both = kind + ", " + index;
        switch (method) {
            case 0 -> same("states", "" + kind, () -> gate.states(kind), mirror.states(kind));
            case 1 -> same("outcomes", "" + kind, () -> gate.outcomes(kind), mirror.outcomes(kind));
            case 2 -> same("outcomeAt", both + ", " + number, () -> gate.outcomeAt(kind, index, number),
                    mirror.outcomeAt(kind, index, number));
            case 3 -> same("shortest", both, () -> gate.shortest(kind, index), mirror.shortest(kind, index));
            case 4 -> same("stepAt", both + ", " + number, () -> gate.stepAt(kind, index, number),
                    mirror.stepAt(kind, index, number));
            case 5 -> same("isStrict", both, () -> gate.isStrict(kind, index), mirror.isStrict(kind, index));
            default -> same("play", both, () -> gate.play(kind, index), mirror.play(kind, index));
        }
    }

    private static void graphs(int method, char kind) {
        if (!mirror.knowsGraphs()) {
            return;
        }
        char rule = picks.of("cccaaoooookC\0");
        int core = index(3);
        int first = index(8);
        int second = index(8);
        switch (method) {
            case 0 -> same("graphs", "", gate::graphs, mirror.graphs());
            case 1 -> same("broken", kind + ", " + rule, () -> gate.broken(kind, rule), mirror.broken(kind, rule));
            case 2 -> same("allowed", "" + kind, () -> gate.allowed(kind), mirror.allowed(kind));
            case 3 -> same("isAllowed", kind + ", " + core + ", " + first + ", " + second,
                    () -> gate.isAllowed(kind, core, first, second), mirror.isAllowed(kind, core, first, second));
            default -> same("isSame", "" + kind, () -> gate.isSame(kind), mirror.isSame(kind));
        }
    }

    private static void racesAndFences(int method, char kind, int index) {
        boolean fences = mirror.knowsFences(kind);
        switch (method) {
            case 0 -> same("races", "", gate::races, mirror.races());
            case 1 -> same("raceAt", "" + index, () -> gate.raceAt(index), mirror.raceAt(index));
            case 2 -> {
                if (fences) {
                    same("fences", "" + kind, () -> gate.fences(kind), mirror.fences(kind));
                }
            }
            case 3 -> {
                if (fences) {
                    same("fenceAt", kind + ", " + index, () -> gate.fenceAt(kind, index), mirror.fenceAt(kind, index));
                }
            }
            case 4 -> same("allSteps", "" + kind, () -> gate.allSteps(kind), mirror.allSteps(kind));
            case 5 -> same("strictShare", "" + kind, () -> gate.strictShare(kind), mirror.strictShare(kind));
            default -> same("meanLength", "" + kind, () -> gate.meanLength(kind), mirror.meanLength(kind));
        }
    }
}
