import java.util.ArrayList;
import java.util.List;

/**
 * The edges of all arguments: the least and the greatest that is good, and what is just outside; each exception that the
 * document names, and of several the one listed first; and that a method that throws an exception changes nothing: an
 * object that has refused a call must answer as another one that has not been asked.
 */
final class EdgeTest {
    private static final String INDEX = "IndexOutOfBoundsException";
    private static final String ARGUMENT = "IllegalArgumentException";
    private static final String STATE = "IllegalStateException";
    private static final String UNSUPPORTED = "UnsupportedOperationException";
    private static final String ELEMENT = "NoSuchElementException";
    private static final int LEAST = Integer.MIN_VALUE;
    private static final int MOST = Integer.MAX_VALUE;
    private static final char[] KINDS = {'s', 't', 'p'};
    /** No kinds: other letters, great ones, the numbers of kinds, and signs at both ends. */
    private static final char[] NO_KINDS = {'x', 'S', 'T', 'P', 'q', 'o', 'r', 'u', 0, 1, 2, '0', '\uffff'};
    private static final int[] NO_CORE = {-1, 3, 4, LEAST, MOST};
    private static final int[] NO_REGISTER = {-1, 2, 3, LEAST, MOST};
    private static final int[] NO_CELL = {-1, 3, 4, LEAST, MOST};
    private static final int[] NO_NUMBER = {-1, 8, 9, LEAST, MOST};

    /** 4000 states in each kind, if cell 0 is 1 at first: nothing ever waits. */
    private static final String[] STATES_4000 = {"i00 i00 i00 x01 i10", "x02 x11 x00 i01 x00", "i00 x02 x02 x01 x01"};
    private static final String[] STATES_4001 = {"i00 i01 i11 i10 x11", "i00 x10 x02 i11 i01", "x10 i00 i12 i02 i00"};
    /** The same in the kind 's', with loads and stores. */
    private static final String[] RACES_4000 = {"s01 l11 s20 s11 i02", "x10 s11 x10 i11 s21", "l00 s00 l12 i01 s20"};
    private static final String[] RACES_4001 = {"s00 l00 s11 i10 s11", "i00 s00 i11 s10 s11", "i11 x10 s01 i10 s11"};
    /** 4000 and 4001 states in the kind 'p'. */
    private static final String[] LOOSE_4000 = {"k01 s00 s11", "k02 s10 s01 s10 l00", "x10 s20 s00 l00"};
    private static final String[] LOOSE_4001 = {"l00 l10 s20 s11", "k02 s11 l12 s11 s00", "s10 l00 s20 s11"};
    /** More than 2 fences are needed in the kinds 't' and 'p'. */
    private static final String[] THREE_FENCES = {"k01 s00 l11", "k01 s10 l12", "k01 s20 l10"};

    public static void main(String[] args) {
        edgesOfAdd();
        edgesOfJumps();
        edgesOfTheMachine();
        edgesOfOutcomes();
        edgesOfGraphs();
        edgesOfRacesAndFences();
        limitOfStates();
        limitOfStrictStates();
        limitOfFencedStates();
        limitOfGraphs();
        refusals();
        refusalsOfAdd();
        lastCall();
        Check.report("EdgeTest");
    }

    // ---- situations: the same object each time, so that one can be asked and another one not

    interface Situation {
        Fencegate make();
    }

    interface Asked {
        Object of(Fencegate gate);
    }

    /** Two stores wait, one of them marked, core 1 has loaded, and core 2 has ended at once. */
    private static Fencegate midway() {
        Fencegate gate = Programs.gate("k03 s00 w s10 f", "l02 j14 i10 x02");
        gate.setFirst(2, 5);
        gate.setKind('p');
        run(gate, 0, 0, 0, 0, 1);
        return gate;
    }

    /** The queues are empty, but the next store of core 1 will be marked. */
    private static Fencegate marked() {
        Fencegate gate = Programs.gate("", "s00 w s10", "x00");
        gate.setFirst(0, 6);
        gate.setKind('t');
        run(gate, 1, 1);
        gate.drain(1, 0);
        return gate;
    }

    /** All cores have five instructions, three of them stores, and one core has a full queue. */
    private static Fencegate full() {
        Fencegate gate = Programs.gate("s00 s10 s20 k05 +001", "k07 s00 s00 s00 f", "w s20 s10 s00 w");
        gate.setKind('p');
        run(gate, 1, 1, 1, 1, 0);
        return gate;
    }

    private static Fencegate ended() {
        Fencegate gate = Programs.gate("k01 s00 l11", "k01 s10 l10");
        gate.setFirst(2, 7);
        gate.play('t', 0);
        return gate;
    }

    private static Fencegate statesOf(String... cores) {
        Fencegate gate = Programs.gate(cores);
        gate.setFirst(0, 1);
        gate.setKind('t');
        run(gate, 0, 0, 1);
        return gate;
    }

    /** More than 4000 states in each kind. */
    private static Fencegate tooMany() {
        return statesOf(STATES_4001);
    }

    private static Fencegate threeFences() {
        Fencegate gate = Programs.gate(THREE_FENCES);
        gate.setKind('p');
        run(gate, 0, 0, 2, 2);
        return gate;
    }

    /** Five loads. */
    private static Fencegate tooMuch() {
        Fencegate gate = Programs.gate("l00 l00 s00", "l00 l00", "l00");
        gate.setKind('t');
        run(gate, 0, 0, 0, 1);
        return gate;
    }

    private static void run(Fencegate gate, int... cores) {
        for (int core : cores) {
            Check.holds("a step ahead", gate.step(core));
        }
    }

    // ---- what an object answers

    /** All that can be seen of an object; in the end, nothing of it is left. */
    private static String answersOf(Fencegate gate) {
        StringBuilder text = new StringBuilder();
        addLive(text, gate);
        for (int i = 0; i < 12; i++) {
            for (int core = 0; core < 3; core++) {
                int c = core;
                text.append(' ').append(Check.of(() -> gate.step(c))).append(Check.of(() -> gate.drain(c, (c + 1) % 2)));
            }
            addLive(text, gate);
        }
        for (char kind : KINDS) {
            List<Asked> asked = List.of(g -> g.states(kind), g -> g.outcomes(kind), g -> g.allSteps(kind),
                    g -> g.strictShare(kind), g -> g.allowed(kind), g -> g.broken(kind, 'o'), g -> g.isSame(kind),
                    g -> g.fences(kind), g -> g.fenceAt(kind, 0));
            asked.forEach(it -> text.append(' ').append(Check.of(() -> it.of(gate))));
        }
        text.append(Check.of(gate::graphs)).append(Check.of(gate::races)).append(Check.of(() -> gate.raceAt(0)));
        text.append(" kind ").append(gate.setKind('s')).append(" first");
        for (int cell = 0; cell < 3; cell++) {
            text.append(' ').append(gate.setFirst(cell, 0));
        }
        for (int core = 0; core < 3; core++) {
            text.append(" core of ").append(gate.clear(core));
        }
        return text.toString();
    }

    private static void addLive(StringBuilder text, Fencegate gate) {
        text.append('\n');
        for (int core = 0; core < 3; core++) {
            text.append(gate.place(core)).append(gate.register(core, 0)).append(gate.register(core, 1));
            text.append(gate.cell(core)).append(':');
            for (int i = 0; i < gate.queue(core); i++) {
                text.append(gate.storeAt(core, i)).append(' ');
            }
        }
        text.append(gate.choices());
    }

    /** Calls that must be refused, and what with; each on an object of its own. */
    private static final class Refusals {
        private final String name;
        private final Situation situation;
        private final String due;

        Refusals(String name, Situation situation) {
            this.name = name;
            this.situation = situation;
            due = answersOf(situation.make());
        }

        void refused(String what, String exception, Asked asked) {
            Fencegate gate = situation.make();
            Check.same(name + ", " + what, Check.of(() -> asked.of(gate)), exception);
            Check.same(name + ", " + what + " changes nothing", answersOf(gate), due);
        }
    }

    // ---- arguments

    private static void good(String what, Asked asked, Object due) {
        Check.same(what, asked.of(new Fencegate()), due);
    }

    private static void edgesOfAdd() {
        for (int core : new int[] {0, 2}) {
            for (int register : new int[] {0, 1}) {
                good("k 0", g -> g.add(core, 'k', register, 0, MOST), 0);
                good("k 7", g -> g.add(core, 'k', register, 7, LEAST), 0);
                for (int other : new int[] {0, 1}) {
                    good("+", g -> g.add(core, '+', register, other, 1 - other), 0);
                }
                for (char letter : new char[] {'l', 'x', 'i'}) {
                    good(letter + " of the first cell", g -> g.add(core, letter, register, 0, MOST), 0);
                    good(letter + " of the last cell", g -> g.add(core, letter, register, 2, LEAST), 0);
                }
                good("s of the first cell", g -> g.add(core, 's', 0, register, MOST), 0);
                good("s of the last cell", g -> g.add(core, 's', 2, register, LEAST), 0);
                good("j to the next place", g -> g.add(core, 'j', register, 1, MOST), 0);
                good("j to the last one", g -> g.add(core, 'j', register, 5, LEAST), 0);
            }
            for (int no : new int[] {LEAST, -1, 0, 9, MOST}) {
                good("w", g -> g.add(core, 'w', no, no, no), 0);
                good("f", g -> g.add(core, 'f', no, no, no), 0);
            }
        }
    }

    /** "a place for 'j', greater than its own and at most 5" */
    private static void edgesOfJumps() {
        for (int own = 0; own < 5; own++) {
            for (int to = -2; to < 9; to++) {
                Fencegate gate = new Fencegate();
                for (int i = 0; i < own; i++) {
                    gate.add(1, 'f', 0, 0, 0);
                }
                int b = to;
                Check.same("j at " + own + " to " + to, Check.of(() -> gate.add(1, 'j', 0, b, 0)),
                        to > own && to <= 5 ? (Object) own : ARGUMENT);
                Check.same("how many there are", gate.clear(1), to > own && to <= 5 ? own + 1 : own);
            }
        }
    }

    private static void edgesOfTheMachine() {
        Refusals midway = new Refusals("midway", EdgeTest::midway);
        for (int no : NO_REGISTER) {
            midway.refused("register " + no, INDEX, g -> g.register(0, no));
            midway.refused("register " + no + " of the last core", INDEX, g -> g.register(2, no));
        }
        for (int no : NO_CELL) {
            midway.refused("cell " + no, INDEX, g -> g.cell(no));
            midway.refused("setFirst of cell " + no, INDEX, g -> g.setFirst(no, 0));
            midway.refused("setFirst of cell and number " + no, INDEX, g -> g.setFirst(no, 8));
        }
        for (int no : NO_NUMBER) {
            for (int cell : new int[] {0, 2}) {
                midway.refused("setFirst to " + no, ARGUMENT, g -> g.setFirst(cell, no));
            }
        }
        for (int no : new int[] {-1, 2, 3, LEAST, MOST}) {
            midway.refused("drain " + no, ELEMENT, g -> g.drain(0, no));
            midway.refused("storeAt " + no, ELEMENT, g -> g.storeAt(0, no));
        }
        for (int no : new int[] {-1, 0, 1, LEAST, MOST}) {
            midway.refused("drain of an empty queue " + no, ELEMENT, g -> g.drain(1, no));
            midway.refused("storeAt of an empty queue " + no, ELEMENT, g -> g.storeAt(2, no));
        }
        midway.refused("step of a core without instructions", ELEMENT, g -> g.step(2));
        Check.same("the first store", midway().storeAt(0, 0), 3);
        Check.same("the last store", midway().storeAt(0, 1), 113);
        Check.holds("the first store can be done", midway().drain(0, 0));
        Check.same("the last store can't", midway().drain(0, 1), false);
        Check.same("register 0", midway().register(0, 0), 3);
        Check.same("register 0 of core 1", midway().register(1, 0), 5);
        Check.same("the last register of the last core", midway().register(2, 1), 0);
        Check.same("the first cell", midway().cell(0), 0);
        Check.same("the last cell", midway().cell(2), 5);

        Refusals full = new Refusals("full queue", EdgeTest::full);
        for (int no : new int[] {-1, 3, 4, LEAST, MOST}) {
            full.refused("drain " + no, ELEMENT, g -> g.drain(1, no));
            full.refused("storeAt " + no, ELEMENT, g -> g.storeAt(1, no));
        }
        Check.same("the last of three", full().storeAt(1, 2), 7);
        Refusals ended = new Refusals("ended", EdgeTest::ended);
        for (int core = 0; core < 3; core++) {
            int c = core;
            ended.refused("step", ELEMENT, g -> g.step(c));
            ended.refused("drain", ELEMENT, g -> g.drain(c, 0));
            ended.refused("storeAt", ELEMENT, g -> g.storeAt(c, 0));
        }
        couldNotBeDone(midway, "drain of a marked one", g -> g.drain(0, 1));
        couldNotBeDone(midway, "step of a full fence", g -> g.step(0));
        couldNotBeDone(full, "step of a full fence", g -> g.step(1));
        couldNotBeDone(full, "drain of one to the same cell", g -> g.drain(1, 2));
    }

    /** "Returns whether it could be done; nothing changes otherwise." */
    private static void couldNotBeDone(Refusals refusals, String what, Asked asked) {
        Fencegate gate = refusals.situation.make();
        Check.same(what, asked.of(gate), false);
        Check.same(what + " changes nothing", answersOf(gate), refusals.due);
    }

    private static void edgesOfOutcomes() {
        // four outcomes in the kind 't', three in 's'
        Refusals ended = new Refusals("ended", EdgeTest::ended);
        for (char kind : KINDS) {
            int size = kind == 's' ? 3 : 4;
            for (int no : new int[] {-1, size, size + 1, LEAST, MOST}) {
                ended.refused("play " + no, INDEX, g -> g.play(kind, no));
                ended.refused("outcomeAt " + no, INDEX, g -> g.outcomeAt(kind, no, 0));
                ended.refused("outcomeAt, the last number of " + no, INDEX, g -> g.outcomeAt(kind, no, 8));
                ended.refused("shortest " + no, INDEX, g -> g.shortest(kind, no));
                ended.refused("stepAt of " + no, INDEX, g -> g.stepAt(kind, no, 0));
                ended.refused("stepAt of no step of " + no, INDEX, g -> g.stepAt(kind, no, -1));
                ended.refused("isStrict " + no, INDEX, g -> g.isStrict(kind, no));
            }
            for (int index : new int[] {0, size - 1}) {
                Check.same("the shortest run", ended().shortest(kind, index), kind == 's' ? 6 : 8);
                Check.same("play", ended().play(kind, index), kind == 's' ? 6 : 8);
                Check.same("its first step", ended().stepAt(kind, index, 0), 0);
                int last = kind == 's' ? 10 : index == 0 ? 11 : 0;
                Check.same("its last step", ended().stepAt(kind, index, kind == 's' ? 5 : 7), last);
                Check.same("its first number", ended().outcomeAt(kind, index, 0), 1);
                Check.same("its last number", ended().outcomeAt(kind, index, 8), 7);
                Check.same("isStrict", ended().isStrict(kind, index), kind == 's' || index > 0);
                for (int no : new int[] {-1, kind == 's' ? 6 : 8, 32, LEAST, MOST}) {
                    ended.refused("step " + no, INDEX, g -> g.stepAt(kind, index, no));
                }
                for (int no : new int[] {-1, 9, 10, LEAST, MOST}) {
                    ended.refused("outcomeAt, number " + no, ARGUMENT, g -> g.outcomeAt(kind, index, no));
                    ended.refused("outcomeAt, nothing of number " + no, ARGUMENT, g -> g.outcomeAt(kind, -1, no));
                }
            }
        }
        Refusals none = new Refusals("new", Fencegate::new);
        for (char kind : KINDS) {
            none.refused("no step of a run without steps", INDEX, g -> g.stepAt(kind, 0, 0));
            none.refused("no second outcome", INDEX, g -> g.play(kind, 1));
        }
    }

    private static void edgesOfGraphs() {
        Refusals ended = new Refusals("ended", EdgeTest::ended);
        for (char kind : KINDS) {
            for (char rule : new char[] {'b', 'd', 'n', 'p', 's', 't', 'C', 'A', 'O', 0, 1, '\uffff'}) {
                ended.refused("rule " + (int) rule, ARGUMENT, g -> g.broken(kind, rule));
            }
            for (int no : NO_NUMBER) {
                Check.same("first " + no, ended().isAllowed(kind, 2, no, 0), false);
                Check.same("second " + no, ended().isAllowed(kind, 2, 0, no), false);
            }
            Check.holds("0 and 0", ended().isAllowed(kind, 2, 0, 0));
            for (int core = 0; core < 3; core++) {
                Check.same("not 7 and 7", ended().isAllowed(kind, core, 7, 7), false);
                Check.same("not 7 and 0", ended().isAllowed(kind, core, 7, 0), false);
            }
            Check.holds("7 and 7", Programs.gate("", "", "k07 k17").isAllowed(kind, 2, 7, 7));
            Check.holds("each rule", ended().broken(kind, 'c') + ended().broken(kind, 'a') + ended().broken(kind, 'o') >= 0);
        }
    }

    private static void edgesOfRacesAndFences() {
        Refusals ended = new Refusals("ended", EdgeTest::ended);
        for (int no : new int[] {-1, 2, 3, LEAST, MOST}) {
            ended.refused("race " + no, INDEX, g -> g.raceAt(no));
            ended.refused("fence " + no, INDEX, g -> g.fenceAt('t', no));
            ended.refused("fence " + no + ", p", INDEX, g -> g.fenceAt('p', no));
        }
        Check.same("the first race, the last race", ended().raceAt(0) * 1000 + ended().raceAt(1), 112211);
        Check.same("the first fence, the last fence", ended().fenceAt('p', 0) * 100 + ended().fenceAt('p', 1), 212);
        for (int no : new int[] {-1, 0, 1, LEAST, MOST}) {
            ended.refused("no strict fence " + no, INDEX, g -> g.fenceAt('s', no));
            new Refusals("new", Fencegate::new).refused("no race " + no, INDEX, g -> g.raceAt(no));
        }
        Refusals three = new Refusals("three fences", EdgeTest::threeFences);
        for (char kind : new char[] {'t', 'p'}) {
            three.refused("fences", UNSUPPORTED, g -> g.fences(kind));
            for (int no : new int[] {-1, 0, 1, 2, 3, MOST}) {
                three.refused("fence " + no, UNSUPPORTED, g -> g.fenceAt(kind, no));
            }
        }
        three.refused("no kind, and two are not enough", ARGUMENT, g -> g.fences('x'));
        three.refused("no kind, no fence, and two are not enough", ARGUMENT, g -> g.fenceAt('x', -1));
        Check.same("none in the kind s", threeFences().fences('s'), 0);
    }

    // ---- limits

    private static List<Asked> askedOfStates(char kind) {
        return List.of(g -> g.states(kind), g -> g.outcomes(kind), g -> g.outcomeAt(kind, 0, 8), g -> g.shortest(kind, 0),
                g -> g.stepAt(kind, 0, 0), g -> g.isStrict(kind, 0), g -> g.allSteps(kind), g -> g.strictShare(kind),
                g -> g.meanLength(kind), g -> g.fences(kind), g -> g.play(kind, 0));
    }

    /** What is asked of an outcome, a step or a fence that there is not. */
    private static List<Asked> askedOfNothing(char kind) {
        return List.of(g -> g.outcomeAt(kind, -1, 0), g -> g.outcomeAt(kind, MOST, 8), g -> g.shortest(kind, -1),
                g -> g.stepAt(kind, -1, 0), g -> g.stepAt(kind, 0, -1), g -> g.isStrict(kind, LEAST), g -> g.play(kind, -1),
                g -> g.fenceAt(kind, -1), g -> g.fenceAt(kind, 0), g -> g.fenceAt(kind, MOST));
    }

    /** "if there are more than 4000 states": 4000 are not too many, 4001 are; and no kind counts first, then this. */
    private static void limitOfStates() {
        Refusals many = new Refusals("4001 states", EdgeTest::tooMany);
        for (char kind : KINDS) {
            Fencegate gate = statesOf(STATES_4000);
            Check.same("4000 states", gate.states(kind), 4000);
            Check.same("each run has 15 steps", gate.allSteps(kind), 15L * gate.outcomes(kind));
            Check.same("all are strict", gate.strictShare(kind), 1.0f);
            Check.same("no fence is needed", gate.fences(kind), 0);
            Check.fails("no fence", INDEX, () -> gate.fenceAt(kind, 0));
            for (Asked asked : askedOfStates(kind)) {
                Check.holds("4000 states are enough", !UNSUPPORTED.equals(Check.of(() -> asked.of(gate))));
            }
            for (Asked asked : askedOfNothing(kind)) {
                Check.fails("4000 states, but no such outcome", INDEX, () -> asked.of(gate));
            }
            for (Asked asked : askedOfStates(kind)) {
                many.refused("kind " + kind, UNSUPPORTED, asked);
            }
            for (Asked asked : askedOfNothing(kind)) {
                many.refused("no such outcome, kind " + kind, UNSUPPORTED, asked);
            }
            many.refused("no such number", ARGUMENT, g -> g.outcomeAt(kind, 0, 9));
            many.refused("no such number of no such outcome", ARGUMENT, g -> g.outcomeAt(kind, -1, -1));
            Check.holds("the same, for there are too many", tooMany().isSame(kind));
            Fencegate then = tooMany();
            Check.fails("too many", UNSUPPORTED, () -> then.states(kind));
            then.clear(0);
            Check.holds("not too many any more", then.states(kind) < 1000);
        }
        for (char kind : NO_KINDS) {
            for (Asked asked : askedOfStates(kind)) {
                many.refused("no kind counts before too many states", ARGUMENT, asked);
            }
            for (Asked asked : askedOfNothing(kind)) {
                many.refused("no kind counts before all else", ARGUMENT, asked);
            }
        }
        many.refused("races", UNSUPPORTED, Fencegate::races);
        for (int no : new int[] {-1, 0, MOST}) {
            many.refused("race " + no, UNSUPPORTED, g -> g.raceAt(no));
        }
    }

    /** Races are of the kind 's': its states count, and those of no other kind. */
    private static void limitOfStrictStates() {
        Fencegate gate = statesOf(RACES_4000);
        Check.same("races of 4000 states", gate.races(), 9);
        Check.holds("the last race", gate.raceAt(8) > gate.raceAt(7));
        Check.same("4000 strict states", gate.states('s'), 4000);
        Check.fails("more with queues", UNSUPPORTED, () -> gate.states('t'));
        Check.same("strict fences", gate.fences('s'), 0);
        Check.fails("4000 states, but no such race", INDEX, () -> gate.raceAt(9));
        Refusals many = new Refusals("4001 strict states", () -> statesOf(RACES_4001));
        many.refused("states", UNSUPPORTED, g -> g.states('s'));
        many.refused("races", UNSUPPORTED, Fencegate::races);
        many.refused("raceAt", UNSUPPORTED, g -> g.raceAt(0));
        many.refused("no such race", UNSUPPORTED, g -> g.raceAt(-1));
        many.refused("strict fences", UNSUPPORTED, g -> g.fences('s'));
    }

    /** "if there are more than 4000 states with some that are tried": without a fence there are most. */
    private static void limitOfFencedStates() {
        Fencegate gate = Programs.gate(LOOSE_4000);
        Check.same("4000 loose states", gate.states('p'), 4000);
        Check.holds("some outcomes are not strict", gate.strictShare('p') < 1.0f);
        Check.same("fences of 4000 states", gate.fences('p'), 2);
        Check.same("where they are put", gate.fenceAt('p', 0) * 100 + gate.fenceAt('p', 1), 214);
        Refusals many = new Refusals("4001 loose states", () -> Programs.gate(LOOSE_4001));
        many.refused("states", UNSUPPORTED, g -> g.states('p'));
        many.refused("fences", UNSUPPORTED, g -> g.fences('p'));
        many.refused("fenceAt", UNSUPPORTED, g -> g.fenceAt('p', 0));
        Check.same("fewer states in the kind s", Programs.gate(LOOSE_4001).fences('s'), 0);
    }

    /** "if the cores have more than 4 loads, swaps and increases, or more than 5 stores, swaps and increases, in all" */
    private static void limitOfGraphs() {
        String[][] good = {
            {"l00 l00 l00 l00"}, {"l00 l00", "l00", "l00"}, {"x00 x00", "i00 i00", "s00"}, {"x00 x00 x00 x00"},
            {"s00 s10 s20", "s00 s10"}, {"s00 s10 s20", "x00", "i00"}, {"s00", "l00 l00 l00 x00", "s00 s00 s00"},
            {"k00 +000 j15 w f", "k00 +000 j15 w f", "k00 +000 j15 w f"}, {"l00 s00 l00 s00", "l00 s00 l00 s00", "s00"},
            {"l00 j05 l00", "l00 j05 l00"},
        };
        for (String[] program : good) {
            Fencegate gate = Programs.gate(program);
            Check.holds("graphs of " + String.join(" | ", program), gate.graphs() > 0);
            Check.holds("broken ones", gate.broken('t', 'c') >= 0);
            Check.holds("allowed ones", gate.allowed('s') > 0);
            Check.fails("no such core", INDEX, () -> gate.isAllowed('s', 3, 0, 0));
        }
        String[][] much = {
            {"l00 l00 l00 l00 l00"}, {"l00 l00", "l00", "l00 l00"}, {"x00 x00", "i00 i00", "l00"}, {"x00 x00 x00 x00 x00"},
            {"i00 i00", "i00 i00", "i00"}, {"s00 s10 s20", "s00 s10 s20"}, {"s00 s10 s20", "x00 x00", "i00"},
            {"s00 s00", "s00 s00", "s00 s00"}, {"l00 j05 l00", "l00 j05 l00 l00"}, {"j05 l00 l00 l00 l00", "l00"},
            {"j05 s00 s00 s00", "s00 s00 s00"}, {"l00 l00 l00 l00 l00", "s00 s00 s00", "s00 s00 s00"},
        };
        for (String[] program : much) {
            Refusals refusals = new Refusals("too much: " + String.join(" | ", program), () -> Programs.gate(program));
            refusals.refused("graphs", UNSUPPORTED, Fencegate::graphs);
            for (char kind : KINDS) {
                refusals.refused("broken", UNSUPPORTED, g -> g.broken(kind, 'c'));
                refusals.refused("allowed", UNSUPPORTED, g -> g.allowed(kind));
                refusals.refused("isAllowed", UNSUPPORTED, g -> g.isAllowed(kind, 0, 0, 0));
                refusals.refused("isAllowed with no numbers", UNSUPPORTED, g -> g.isAllowed(kind, 2, -1, 8));
                refusals.refused("no such core", INDEX, g -> g.isAllowed(kind, 3, 0, 0));
                refusals.refused("no such rule", ARGUMENT, g -> g.broken(kind, 'x'));
                Check.holds("the same, for it is too much", Programs.gate(program).isSame(kind));
            }
            refusals.refused("no such kind", ARGUMENT, g -> g.allowed('x'));
        }
        Fencegate then = Programs.gate("l00 l00", "l00 l00", "l00");
        Check.fails("too much", UNSUPPORTED, then::graphs);
        then.clear(2);
        Check.same("not too much any more", then.graphs(), 1);
    }

    // ---- refusals in all situations

    private static void refusals() {
        List<Refusals> all = new ArrayList<>();
        all.add(new Refusals("new", Fencegate::new));
        all.add(new Refusals("midway", EdgeTest::midway));
        all.add(new Refusals("marked", EdgeTest::marked));
        all.add(new Refusals("full", EdgeTest::full));
        all.add(new Refusals("ended", EdgeTest::ended));
        all.add(new Refusals("too many", EdgeTest::tooMany));
        all.add(new Refusals("three fences", EdgeTest::threeFences));
        all.add(new Refusals("too much", EdgeTest::tooMuch));
        for (Refusals it : all) {
            for (int no : NO_CORE) {
                it.refused("add", INDEX, g -> g.add(no, 'k', 0, 0, 0));
                it.refused("add of no letter", INDEX, g -> g.add(no, '?', -1, -1, -1));
                it.refused("clear", INDEX, g -> g.clear(no));
                it.refused("step", INDEX, g -> g.step(no));
                it.refused("drain", INDEX, g -> g.drain(no, 0));
                it.refused("drain of no store", INDEX, g -> g.drain(no, -1));
                it.refused("place", INDEX, g -> g.place(no));
                it.refused("register", INDEX, g -> g.register(no, 0));
                it.refused("register, both", INDEX, g -> g.register(no, 2));
                it.refused("queue", INDEX, g -> g.queue(no));
                it.refused("storeAt", INDEX, g -> g.storeAt(no, 0));
                it.refused("storeAt of no store", INDEX, g -> g.storeAt(no, 3));
                it.refused("isAllowed", INDEX, g -> g.isAllowed('p', no, 0, 0));
            }
            for (char kind : NO_KINDS) {
                it.refused("setKind", ARGUMENT, g -> g.setKind(kind));
                for (Asked asked : askedOfStates(kind)) {
                    it.refused("no such kind", ARGUMENT, asked);
                }
                it.refused("broken", ARGUMENT, g -> g.broken(kind, 'c'));
                it.refused("broken, both", ARGUMENT, g -> g.broken(kind, 'x'));
                it.refused("allowed", ARGUMENT, g -> g.allowed(kind));
                it.refused("isAllowed", ARGUMENT, g -> g.isAllowed(kind, 0, 0, 0));
                it.refused("isAllowed, both", ARGUMENT, g -> g.isAllowed(kind, 3, 0, 0));
                it.refused("isSame", ARGUMENT, g -> g.isSame(kind));
                it.refused("fenceAt", ARGUMENT, g -> g.fenceAt(kind, 0));
            }
        }
    }

    private static void refusalsOfAdd() {
        Refusals midway = new Refusals("midway", EdgeTest::midway);
        Refusals full = new Refusals("full", EdgeTest::full);
        for (Refusals it : new Refusals[] {midway, full}) {
            for (char letter : "?KSLXIJWFabcdeghmnopqrtuvyz*,- 0\0\uffff".toCharArray()) {
                it.refused("letter " + (int) letter, ARGUMENT, g -> g.add(1, letter, 0, 1, 0));
            }
            for (int no : NO_REGISTER) {
                for (char letter : new char[] {'k', '+', 'l', 'x', 'i'}) {
                    it.refused(letter + " a", ARGUMENT, g -> g.add(1, letter, no, 1, 0));
                }
                it.refused("j a", ARGUMENT, g -> g.add(1, 'j', no, 5, 0));
                it.refused("+ b", ARGUMENT, g -> g.add(1, '+', 0, no, 0));
                it.refused("+ c", ARGUMENT, g -> g.add(1, '+', 0, 0, no));
                it.refused("s b", ARGUMENT, g -> g.add(1, 's', 0, no, 0));
            }
            for (int no : NO_CELL) {
                it.refused("s a", ARGUMENT, g -> g.add(1, 's', no, 0, 0));
                for (char letter : new char[] {'l', 'x', 'i'}) {
                    it.refused(letter + " b", ARGUMENT, g -> g.add(1, letter, 0, no, 0));
                }
            }
            for (int no : NO_NUMBER) {
                it.refused("k b", ARGUMENT, g -> g.add(1, 'k', 0, no, 0));
            }
            for (int no : new int[] {-1, 0, 4, 6, LEAST, MOST}) {
                it.refused("j b", ARGUMENT, g -> g.add(1, 'j', 0, no, 0));
            }
        }
        for (char letter : new char[] {'k', '+', 'l', 's', 'x', 'i', 'w', 'f'}) {
            full.refused("a sixth one, " + letter, STATE, g -> g.add(1, letter, 0, 1, 0));
        }
        full.refused("a sixth one, j, has no place to go", ARGUMENT, g -> g.add(1, 'j', 0, 5, 0));
        Refusals stores = new Refusals("three stores", () -> statesOf("s00 s10 s20", "f", "s00"));
        stores.refused("a fourth store", STATE, g -> g.add(0, 's', 2, 1, 0));
        stores.refused("a fourth store of no cell", ARGUMENT, g -> g.add(0, 's', 3, 0, 0));
        stores.refused("a fourth store of no register", ARGUMENT, g -> g.add(0, 's', 0, 2, 0));
        stores.refused("a fourth store of no core", INDEX, g -> g.add(3, 's', 0, 0, 0));
    }

    /** "An object is used for at most 512 calls": the last one is a call as any other. */
    private static void lastCall() {
        Fencegate gate = new Fencegate();
        int calls = 0;
        for (int i = 0; i < 63; i++) {
            int core = i % 2;
            gate.clear(core);
            gate.setFirst(0, i % 8);
            gate.add(core, 'k', 0, 1 + i % 7, 0);
            gate.add(core, 's', 0, 0, 0);
            gate.add(core, 'w', 0, 0, 0);
            gate.add(core, 's', 1, 0, 0);
            Check.holds("states", gate.states('p') > 0);
            Check.holds("graphs", gate.isSame('p'));
            calls += 8;
        }
        for (; calls < 511; calls++) {
            Check.holds("fences", gate.fences('t') >= 0);
        }
        Check.same("the 512th call", gate.shortest('s', 0), 8);
    }
}
