/**
 * The document's section "Terms", sentence by sentence: for each sentence that names a boundary, a test of its own, with
 * the sentence above it. The numbers that are due have been counted by hand from these sentences.
 */
final class TermsTest {
    private static final String STATE = "IllegalStateException";
    private static final String UNSUPPORTED = "UnsupportedOperationException";
    private static final String ELEMENT = "NoSuchElementException";
    private static final char[] KINDS = {'s', 't', 'p'};
    private static final char[] QUEUED = {'t', 'p'};

    public static void main(String[] args) {
        fiveInstructions();
        numbersOfRegistersAndCells();
        moduloEight();
        oneRegister();
        swapsAndIncreasesAtOnce();
        jumps();
        endOfACore();
        threeStores();

        strictStores();
        queuedStores();
        latestStore();
        emptyQueueFirst();
        fencesOfStoresAlways();
        nextStoreIsMarked();
        firstOfAQueue();
        anyOtherOne();
        steps();

        statesApart();
        runsToTheEnd();
        orderOfOutcomes();
        fewestSteps();
        firstOfSeveralRuns();

        numbersTried();
        reckoningInGraphs();
        jumpsInGraphs();
        firstNumbers();
        readingFromOthers();
        ordersOfCells();
        outcomesOfGraphs();
        laterThanWhatReads();

        ruleC();
        ruleA();
        ruleO();
        swapsAreNeither();

        races();
        racesAreStrict();
        fences();
        twoFences();
        Check.report("TermsTest");
    }

    private static void step(Fencegate gate, int core, int times) {
        for (int i = 0; i < times; i++) {
            Check.holds("step " + i + " of core " + core, gate.step(core));
        }
    }

    private static Fencegate machine(char kind, String... cores) {
        Fencegate gate = Programs.gate(cores);
        gate.setKind(kind);
        return gate;
    }

    // ---- programs

    /** "There are the cores 0 to 2, each with at most 5 instructions, at the places from 0 on" */
    private static void fiveInstructions() {
        for (int core = 0; core < 3; core++) {
            Fencegate gate = new Fencegate();
            int full = core;
            for (int place = 0; place < 5; place++) {
                Check.same("place of an instruction", gate.add(core, 'k', 0, place, 0), place);
            }
            Check.fails("a sixth instruction", STATE, () -> gate.add(full, 'k', 0, 0, 0));
            for (int other = 0; other < 3; other++) {
                if (other != core) {
                    Check.same("another core has none of them", gate.add(other, 'f', 0, 0, 0), 0);
                }
            }
            step(gate, core, 5);
            Check.same("the fifth one is done", gate.register(core, 0), 4);
        }
    }

    /** "Registers and cells have numbers from 0 to 7, registers 0 at first, cells what was told, 0 without" */
    private static void numbersOfRegistersAndCells() {
        for (int number = 0; number < 8; number++) {
            for (int i = 0; i < 3; i++) {
                Fencegate gate = new Fencegate();
                gate.setFirst(i, number);
                gate.add(i, 'k', 1, number, 0);
                gate.add(i, 's', (i + 1) % 3, 1, 0);
                gate.add(i, 'l', 0, i, 0);
                Check.same("registers at first", 10 * gate.register(i, 0) + gate.register(i, 1), 0);
                Check.same("a cell is what was told", gate.cell(i), number);
                Check.same("the other cells are 0 without", 10 * gate.cell((i + 1) % 3) + gate.cell((i + 2) % 3), 0);
                step(gate, i, 3);
                Check.same("a register of this number", gate.register(i, 1), number);
                Check.same("a cell of this number", gate.cell((i + 1) % 3), number);
                Check.same("a load of this number", gate.register(i, 0), number);
            }
        }
    }

    /** "what is reckoned is taken modulo 8" */
    private static void moduloEight() {
        for (int p = 0; p < 8; p++) {
            for (int q = 0; q < 8; q++) {
                Fencegate gate = Programs.gate("k0" + p + " k1" + q + " +001 i10 i12");
                gate.setFirst(0, p);
                gate.setFirst(2, q);
                step(gate, 0, 4);
                Check.same(p + " + " + q, gate.register(0, 0), (p + q) % 8);
                Check.same("increase " + p + " by " + q, gate.cell(0), (p + q) % 8);
                Check.same("what it was", gate.register(0, 1), p);
                step(gate, 0, 1);
                Check.same("increase " + q + " by " + p, gate.cell(2), (p + q) % 8);
            }
            Check.same("twice " + p, stepped("k1" + p + " +011").register(0, 0), 2 * p % 8);
            Check.same("twice itself " + p, stepped("k1" + p + " +111").register(0, 1), 2 * p % 8);
        }
    }

    private static Fencegate stepped(String core) {
        Fencegate gate = Programs.gate(core);
        step(gate, 0, core.split(" ").length);
        return gate;
    }

    /** "'k': the register a becomes the number b. '+': the register a becomes the sum of the registers b and c." */
    private static void oneRegister() {
        Check.same("k leaves the other register", stepped("k03 k14 k05").register(0, 1), 4);
        Check.same("k of register 1 leaves the other", stepped("k03 k14 k15").register(0, 0), 3);
        Check.same("+ leaves the other register", stepped("k03 k14 +000").register(0, 1), 4);
        Check.same("a sum of one with itself", stepped("k03 k12 +000").register(0, 0), 6);
        Check.same("a sum into one of them", stepped("k03 k12 +101").register(0, 1), 5);
        Check.same("a sum the other way round", stepped("k03 k12 +110").register(0, 1), 5);
    }

    /**
     * "the register a and the cell b change places, at once", "and this becomes the sum of itself and what the register a
     * was, at once"
     */
    private static void swapsAndIncreasesAtOnce() {
        for (char kind : KINDS) {
            for (int cell = 0; cell < 3; cell++) {
                Fencegate gate = machine(kind, "k15 x1" + cell + " k16 i1" + cell);
                gate.setFirst(cell, 4);
                step(gate, 0, 2);
                Check.same("a swap's register", gate.register(0, 1), 4);
                Check.same("a swap's cell", gate.cell(cell), 5);
                step(gate, 0, 2);
                Check.same("an increase's register", gate.register(0, 1), 5);
                Check.same("an increase's cell", gate.cell(cell), 3);
                Check.same("no queue", gate.queue(0), 0);
                Check.same("register 0 and the other cells", gate.register(0, 0) + gate.cell((cell + 1) % 3)
                        + gate.cell((cell + 2) % 3), 0);
            }
        }
    }

    /** "goes on at the place b, which is behind this one, if the register a is 0, or ends the core, if there is none" */
    private static void jumps() {
        for (int size = 1; size <= 5; size++) {
            for (int place = 0; place < size; place++) {
                for (int to = place + 1; to <= 5; to++) {
                    Fencegate gate = Programs.gate(withJump(size, place, "j0" + to));
                    step(gate, 0, place + 1);
                    Check.same("place " + to + " of " + size + " from " + place, gate.place(0), Math.min(to, size));
                    if (to >= size) {
                        Check.fails("it has ended", ELEMENT, () -> gate.step(0));
                    } else {
                        Check.holds("it goes on", gate.step(0));
                    }
                }
            }
        }
        for (int number = 1; number < 8; number++) {
            Check.same("no jump with " + number, stepped("k0" + number + " j05").place(0), 2);
            Check.same("register 1 with " + number, stepped("k1" + number + " k00 j15").place(0), 3);
            Fencegate other = Programs.gate("k1" + number + " j05 f f");
            step(other, 0, 2);
            Check.same("a jump if only the other register is " + number, other.place(0), 4);
        }
        Fencegate round = Programs.gate("k04 +000 j04 f f");
        step(round, 0, 3);
        Check.same("4 and 4 is 0", round.place(0), 4);
    }

    private static String withJump(int size, int place, String jump) {
        StringBuilder core = new StringBuilder();
        for (int i = 0; i < size; i++) {
            core.append(i == 0 ? "" : " ").append(i == place ? jump : "f");
        }
        return core.toString();
    }

    /** "A core ends behind its last instruction." */
    private static void endOfACore() {
        for (int size = 0; size <= 5; size++) {
            Fencegate gate = new Fencegate();
            for (int i = 0; i < size; i++) {
                gate.add(2, 'w', 0, 0, 0);
            }
            step(gate, 2, size);
            Check.same("the place behind the last one", gate.place(2), size);
            Check.fails("a core of " + size + " has ended", ELEMENT, () -> gate.step(2));
            Check.same("nothing is left to do", gate.choices(), 0);
            Check.same("a run of " + size, gate.shortest('p', 0), size);
        }
    }

    /** "A core has at most 3 stores." */
    private static void threeStores() {
        for (String three : new String[] {"s00 s10 s20", "k01 s00 s00 s00", "s00 x00 s00 s01", "s00 s01 i00 s00"}) {
            for (int core = 0; core < 3; core++) {
                String[] cores = {"", "", ""};
                cores[core] = three;
                Fencegate gate = Programs.gate(cores);
                int full = core;
                int size = three.split(" ").length;
                Check.fails("a fourth store", STATE, () -> gate.add(full, 's', 1, 1, 0));
                Check.same("a store of another core", gate.add((core + 1) % 3, 's', 1, 1, 0), 0);
                Check.same("what is no store", gate.add(core, 'x', 1, 1, 0), size);
                Check.same("they are cleared", gate.clear(core), size + 1);
                for (int place = 0; place < 3; place++) {
                    Check.same("three again", gate.add(core, 's', 1, 1, 0), place);
                }
                Check.fails("and no fourth one", STATE, () -> gate.add(full, 's', 1, 1, 0));
            }
        }
    }

    // ---- the machine

    /** "In the kind 's', a store is done in its cell at once" */
    private static void strictStores() {
        for (int cell = 0; cell < 3; cell++) {
            Fencegate gate = Programs.gate("k07 k16 s" + cell + "0 s" + cell + "1");
            step(gate, 0, 3);
            Check.same("a strict store", gate.cell(cell), 7);
            Check.same("nothing waits", gate.queue(0), 0);
            step(gate, 0, 1);
            Check.same("the next one", gate.cell(cell), 6);
        }
    }

    /** "in the kinds 't' and 'p', it comes to the end of the queue" */
    private static void queuedStores() {
        for (char kind : QUEUED) {
            Fencegate gate = machine(kind, "", "k07 s20 s11 s00");
            step(gate, 1, 2);
            Check.same("one waits", gate.queue(1) * 1000 + gate.storeAt(1, 0), 1027);
            step(gate, 1, 1);
            Check.same("two wait", gate.queue(1) * 1000 + gate.storeAt(1, 1), 2010);
            step(gate, 1, 1);
            Check.same("three wait, as many as a core has", gate.queue(1) * 1000 + gate.storeAt(1, 2), 3007);
            Check.same("the first one stands first", gate.storeAt(1, 0), 27);
            Check.same("no cell has changed", gate.cell(0) + gate.cell(1) + gate.cell(2), 0);
            Check.same("the other queues are empty", gate.queue(0) + gate.queue(2), 0);
        }
    }

    /**
     * "A load has the number of the latest store to its cell in the core's own queue, or if there is none, that of the
     * cell."
     */
    private static void latestStore() {
        for (char kind : QUEUED) {
            Fencegate gate = machine(kind, "k01 s00 k02 s00 l10", "l00 l10");
            gate.setFirst(0, 5);
            step(gate, 0, 5);
            Check.same("of two in the queue the latest", gate.register(0, 1), 2);
            step(gate, 1, 1);
            Check.same("the queue of another core does not count", gate.register(1, 0), 5);
            gate.drain(0, 0);
            step(gate, 1, 1);
            Check.same("what has left the queue is in the cell", gate.register(1, 1), 1);

            Fencegate middle = machine(kind, "k03 s00 s10 s21 l01");
            step(middle, 0, 5);
            Check.same("one with another behind it", middle.register(0, 0), 3);

            Fencegate last = machine(kind, "s20 s10 k06 s00 l10");
            step(last, 0, 5);
            Check.same("the last one of three", last.register(0, 1), 6);

            Fencegate none = machine(kind, "k03 s00 s10 l02");
            none.setFirst(2, 4);
            step(none, 0, 4);
            Check.same("none to its cell", none.register(0, 0), 4);

            Fencegate left = machine(kind, "k03 s00 l10", "k05 s00");
            step(left, 0, 2);
            left.drain(0, 0);
            step(left, 1, 2);
            left.drain(1, 0);
            step(left, 0, 1);
            Check.same("one that has left does not count", left.register(0, 1), 5);

            Fencegate zero = machine(kind, "s00 k03 l00");
            zero.setFirst(0, 5);
            step(zero, 0, 3);
            Check.same("a store of 0 is one", zero.register(0, 0), 0);
        }
    }

    /** "A swap, an increase and a full fence can be done only if the core's queue is empty." */
    private static void emptyQueueFirst() {
        for (char kind : QUEUED) {
            for (String waits : new String[] {"x02", "i02", "f"}) {
                for (int stores = 1; stores <= 3; stores++) {
                    Fencegate gate = machine(kind, "s00 s00 s00".substring(0, 4 * stores - 1) + " " + waits, "s20 " + waits);
                    step(gate, 1, 1);
                    step(gate, 0, stores);
                    for (int i = 0; i < stores; i++) {
                        Check.same(waits + " waits for " + (stores - i), gate.step(0), false);
                        Check.same("nothing has changed", 10 * gate.place(0) + gate.queue(0), 10 * stores + stores - i);
                        gate.drain(0, 0);
                    }
                    Check.same("another core's queue is not empty", gate.queue(1), 1);
                    Check.holds(waits + " is done", gate.step(0));
                    Check.same("place behind it", gate.place(0), stores + 1);
                }
                Check.holds(waits + " with nothing ahead", machine(kind, waits).step(0));
            }
        }
    }

    /** "A fence of stores can always be done" */
    private static void fencesOfStoresAlways() {
        for (char kind : KINDS) {
            for (int stores = 0; stores <= 3; stores++) {
                Fencegate gate = machine(kind, ("s00 s10 s20 ".substring(0, 4 * stores) + "w w"));
                step(gate, 0, stores + 2);
                Check.same("it is behind both", gate.place(0), stores + 2);
                Check.same("the queue stays", gate.queue(0), kind == 's' ? 0 : stores);
            }
        }
    }

    /** "the next store behind it is marked, in the kind 't', too, if the queue is not empty then, whatever comes between" */
    private static void nextStoreIsMarked() {
        for (char kind : QUEUED) {
            Check.same("one waits", marksOf(kind, "s00 w s10 s20"), ".m.");
            Check.same("two wait", marksOf(kind, "s00 s10 w s20"), "..m");
            Check.same("two fences", marksOf(kind, "s00 w w s20"), ".m");
            Check.same("two fences, two stores", marksOf(kind, "s00 w s10 w s20"), ".mm");
            Check.same("an empty queue", marksOf(kind, "w s00 s10 s20"), "...");
            Check.same("an empty queue, then one waits", marksOf(kind, "w s00 w s10"), ".m");
            Check.same("no store behind it", marksOf(kind, "s00 s10 w"), "..");
            Check.same("loads, reckoning and jumps between", marksOf(kind, "s00 w l01 +000 s10"), ".m");
            Check.same("a jump between", marksOf(kind, "s00 w j14 s10 s20"), ".m");
            Check.same("a fence that is jumped over", marksOf(kind, "s00 j03 w s10"), "..");
            Check.same("to the same cell", marksOf(kind, "s00 w s00"), ".m");

            for (String between : new String[] {"f", "x12", "i12", "w", "l10"}) {
                Fencegate gate = machine(kind, "s00 w " + between + " s10 s20");
                step(gate, 0, 2);
                gate.drain(0, 0);
                step(gate, 0, 3);
                Check.same("the queue drained, then " + between, gate.storeAt(0, 0) * 1000 + gate.storeAt(0, 1), 110020);
            }
            Fencegate early = machine(kind, "s00 w s10");
            step(early, 0, 1);
            early.drain(0, 0);
            step(early, 0, 2);
            Check.same("the queue drained, then the fence", early.storeAt(0, 0), 10);

            Fencegate other = machine(kind, "s00 w", "s00", "s10");
            step(other, 1, 1);
            step(other, 0, 2);
            step(other, 2, 1);
            Check.same("the next store of another core", other.storeAt(2, 0), 10);
            Check.same("the queue of another core", marksOf(machine(kind, "w s10", "s00"), 1, 2), ".");

            Fencegate again = machine(kind, "s00 w s10");
            step(again, 0, 2);
            again.setKind(kind);
            step(again, 0, 1);
            again.drain(0, 0);
            step(again, 0, 2);
            Check.same("no mark of the run before", again.storeAt(0, 0), 10);
        }
    }

    private static String marksOf(char kind, String core) {
        return marksOf(machine(kind, core), 0, core.split(" ").length);
    }

    /** Lets a core do what it can, after another one has done a step, and tells the marks of its queue. */
    private static String marksOf(Fencegate gate, int other, int size) {
        if (other != 0) {
            gate.step(other);
        }
        for (int i = 0; i < size && gate.place(0) < size; i++) {
            gate.step(0);
        }
        StringBuilder marks = new StringBuilder();
        for (int i = 0; i < gate.queue(0); i++) {
            marks.append(gate.storeAt(0, i) >= 100 ? 'm' : '.');
        }
        return marks.toString();
    }

    /** "What stands first in a queue can be done in its cell at any time, and leaves the queue" */
    private static void firstOfAQueue() {
        for (char kind : QUEUED) {
            Fencegate gate = machine(kind, "k03 s00 w s10 f");
            step(gate, 0, 2);
            Check.holds("before the fence of stores", gate.drain(0, 0));
            Check.same("it is done", gate.cell(0), 3);
            Check.same("it has left", gate.queue(0), 0);
            gate.setKind(kind);
            step(gate, 0, 4);
            Check.same("the full fence waits", gate.step(0), false);
            Check.holds("ahead of a full fence", gate.drain(0, 0));
            Check.same("the next one stands first now", gate.storeAt(0, 0), 113);
            Check.holds("a marked one", gate.drain(0, 0));
            Check.same("it is done, too", gate.cell(1), 3);
            Check.fails("none is left", ELEMENT, () -> gate.drain(0, 0));

            Fencegate ended = machine(kind, "k01 s00", "", "s20");
            step(ended, 0, 2);
            Check.holds("the core has ended", ended.drain(0, 0));
            Check.same("its cell", ended.cell(0), 1);
            Check.same("the others stay", ended.cell(1) + ended.cell(2), 0);
        }
    }

    /**
     * "in the kind 'p', any other one can, too, if none ahead of it is to the same cell, and neither it nor one ahead of
     * it is marked, the first one aside": all queues of three stores, each with and without a fence of stores between.
     */
    private static void anyOtherOne() {
        for (int i = 0; i < 27 * 4; i++) {
            int[] cell = {i % 3, i / 3 % 3, i / 9 % 3};
            boolean second = i / 27 % 2 > 0;
            boolean third = i / 54 > 0;
            String core = "s" + cell[0] + "0 " + (second ? "w " : "") + "s" + cell[1] + "0 " + (third ? "w " : "") + "s"
                    + cell[2] + "0";
            boolean secondCan = cell[1] != cell[0] && !second;
            boolean thirdCan = cell[2] != cell[0] && cell[2] != cell[1] && !second && !third;
            for (char kind : QUEUED) {
                for (int index = 0; index < 3; index++) {
                    Fencegate gate = machine(kind, core);
                    step(gate, 0, core.split(" ").length);
                    boolean can = index == 0 || kind == 'p' && (index == 1 ? secondCan : thirdCan);
                    Check.same(kind + " " + core + " store " + index, gate.drain(0, index), can);
                    Check.same("what is left", gate.queue(0), can ? 2 : 3);
                    int next = gate.storeAt(0, index == 0 ? 1 : 0) % 100 / 10;
                    Check.same("in its order", next, index == 0 ? cell[2] : cell[0]);
                }
            }
        }
        Fencegate aside = machine('p', "s00 w s10 s20");
        step(aside, 0, 4);
        Check.same("behind a marked one", aside.drain(0, 2), false);
        Check.holds("the first one", aside.drain(0, 0));
        Check.holds("the marked one is the first one now, and aside", aside.drain(0, 1));
        Check.same("the marked one is left", aside.storeAt(0, 0), 110);
    }

    /** "A step does an instruction of a core that can be done, or one store of a queue." */
    private static void steps() {
        Check.same("no cores", new Fencegate().choices(), 0);
        Check.same("three cores", Programs.gate("f", "f", "f").choices(), 3);
        for (char kind : QUEUED) {
            Fencegate gate = machine(kind, "s00 s10 s20 f", "s00 s00 s00", "");
            step(gate, 0, 3);
            step(gate, 1, 3);
            Check.same("full queues", gate.choices(), kind == 't' ? 2 : 4);
            gate.drain(0, 0);
            Check.same("two are left", gate.choices(), kind == 't' ? 2 : 3);
            gate.drain(0, 0);
            gate.drain(0, 0);
            Check.same("the fence can be done", gate.choices(), 2);
            step(gate, 0, 1);
            gate.drain(1, 0);
            gate.drain(1, 0);
            Check.same("one is left", gate.choices(), 1);
            gate.drain(1, 0);
            Check.same("nothing is left", gate.choices(), 0);
        }
    }

    // ---- runs and outcomes

    /** "A state is all places, registers, cells, queues and marks, one for the next store included." */
    private static void statesApart() {
        Check.same("no instruction", new Fencegate().states('t'), 1);
        Check.same("places", Programs.gate("f f f").states('s'), 4);
        Check.same("places of all cores", Programs.gate("f", "f", "f").states('s'), 8);
        Check.same("registers", Programs.gate("l00", "k01 s00").states('s'), 7);
        Check.same("the other register", Programs.gate("l10", "k01 s00").states('s'), 7);
        Check.same("cells", Programs.gate("k01 s00", "k02 s00").states('s'), 10);
        Check.same("the last cell", Programs.gate("k01 s20", "k02 s20").states('s'), 10);
        Check.same("lengths of queues", Programs.gate("s00 s10").states('t'), 6);
        Check.same("full queues", Programs.gate("s00 s10 s20").states('t'), 1 + 2 + 3 + 4);
        Check.same("full queues, whatever leaves first", Programs.gate("s00 s10 s20").states('p'), 1 + 2 + 4 + 8);
        Check.same("cells of queues", Programs.gate("s00 s10").states('p'), 7);
        Check.same("numbers of queues", Programs.gate("l00 s10 k00", "k01 s00").states('t'), 29);
        Check.same("marks of queues", Programs.gate("s00 w s10").states('t'), 10);
        Check.same("a mark for the next store", Programs.gate("s00 w").states('t'), 6);
        Check.same("no marks without queues", Programs.gate("s00 w s10").states('s'), 4);
    }

    /** "A run goes by steps from the first state until all cores have ended and all queues are empty." */
    private static void runsToTheEnd() {
        for (char kind : KINDS) {
            int wait = kind == 's' ? 0 : 1;
            Check.same("nothing is an outcome", new Fencegate().outcomes(kind), 1);
            Check.same("without a step", new Fencegate().shortest(kind, 0), 0);
            Fencegate one = Programs.gate("k07 s00");
            Check.same("until its queue is empty", one.shortest(kind, 0), 2 + wait);
            Check.same("with what was in the queue", one.outcomeAt(kind, 0, 6), 7);
            Check.same("one of the ways", one.outcomes(kind), 1);
            Fencegate last = Programs.gate("", "", "f s00");
            Check.same("until the last core has ended", last.shortest(kind, 0), 2 + wait);
            Fencegate most = Programs.gate("s00 s10 s20 l00 l01", "s00 s10 s20 l00 l01", "s00 s10 s20 l00 l01");
            if (kind == 's') {
                Check.same("15 instructions", most.shortest(kind, 0), 15);
            }
        }
        Fencegate longest = Programs.gate("s00 s00 s00 w", "s00 s00 s00 w", "s00 s00 s00 w");
        Check.same("the longest run here has each store wait", longest.shortest('t', 0), 21);
    }

    private static String outcome(Fencegate gate, char kind, int index) {
        StringBuilder numbers = new StringBuilder();
        for (int what = 0; what < 9; what++) {
            numbers.append(gate.outcomeAt(kind, index, what));
        }
        return numbers.toString();
    }

    private static int indexOf(Fencegate gate, char kind, String outcome) {
        int index = 0;
        while (index < gate.outcomes(kind) - 1 && !outcome(gate, kind, index).equals(outcome)) {
            index++;
        }
        Check.same("there is such an outcome", outcome(gate, kind, index), outcome);
        return index;
    }

    private static void sameOutcomes(String what, Fencegate gate, char kind, String... due) {
        Check.same(what + ": how many", gate.outcomes(kind), due.length);
        for (int index = 0; index < due.length; index++) {
            Check.same(what + ": outcome " + index, outcome(gate, kind, index), due[index]);
        }
    }

    /**
     * "Outcomes are ordered by the numbers of the registers 0 and 1 of core 0, then of core 1, then of core 2, then of the
     * cells 0, 1 and 2, the first difference counting, a lesser number first." Each time, what comes just behind the
     * first difference is ordered the other way round.
     */
    private static void orderOfOutcomes() {
        String one = "k01 s00";
        String turned = "k11 l00 j04 k10";
        sameOutcomes("registers of core 0", Programs.gate(turned, one), 's', "011000100", "101000100");
        sameOutcomes("core 0, core 1", withFirst(1, "x10", "x00"), 's', "001000000", "010000000");
        sameOutcomes("registers of core 1", Programs.gate(one, turned), 's', "100100100", "101000100");
        sameOutcomes("core 1, core 2", withFirst(1, "", "x10", "x00"), 's', "000010000", "000100000");
        sameOutcomes("registers of core 2", Programs.gate(one, "", turned), 's', "100001100", "100010100");
        sameOutcomes("core 2, cell 0", withFirst(1, "", "k02 s00", "x10"), 's', "002001200", "002002000");
        sameOutcomes("cells 0 and 1", Programs.gate("k01 s00 s10", "k02 s00 s10"), 's', "102000110", "102000120",
                "102000210", "102000220");
        sameOutcomes("cells 1 and 2", Programs.gate("k01 s10 s20", "k02 s10 s20"), 's', "102000011", "102000012",
                "102000021", "102000022");
        sameOutcomes("0 and 7", withFirst(7, "l00", "s00"), 's', "000000000", "700000000");
    }

    private static Fencegate withFirst(int number, String... cores) {
        Fencegate gate = Programs.gate(cores);
        gate.setFirst(0, number);
        return gate;
    }

    private static void sameRun(String what, Fencegate gate, char kind, int index, int... due) {
        Check.same(what + ": its length", gate.shortest(kind, index), due.length);
        for (int i = 0; i < due.length; i++) {
            Check.same(what + ": step " + i, gate.stepAt(kind, index, i), due[i]);
        }
    }

    /** "Of the runs to an outcome, one with the fewest steps is the shortest" */
    private static void fewestSteps() {
        // a run that starts with both steps of core 0 comes first, but then core 1 does not jump
        Fencegate gate = Programs.gate("k01 s00", "l10 j15 k10");
        Check.same("one outcome", gate.outcomes('s'), 1);
        sameRun("a run with a jump", gate, 's', 0, 0, 10, 0, 10);
        Check.same("all steps", gate.allSteps('s'), 4L);
    }

    /**
     * "of several, steps are compared from the first one on: those of lower cores come first, of a core its instruction
     * ahead of its queue, and of this an earlier one first"
     */
    private static void firstOfSeveralRuns() {
        sameRun("lower cores", Programs.gate("f", "f", "f"), 's', 0, 0, 10, 20);
        sameRun("all of a core first", Programs.gate("f f", "f f"), 's', 0, 0, 0, 10, 10);
        for (char kind : QUEUED) {
            sameRun("the instruction first", Programs.gate("s00 k01"), kind, 0, 0, 0, 1);
            sameRun("a queue ahead of a higher core", Programs.gate("s00", "f"), kind, 0, 0, 1, 10);
            sameRun("an earlier store", Programs.gate("s00 s10 s20"), kind, 0, 0, 0, 0, 1, 1, 1);
            sameRun("of several states with an outcome, too", Programs.gate("s00 w"), kind, 0, 0, 0, 1);
            sameRun("of the last core", Programs.gate("", "", "s00 s00"), kind, 0, 20, 20, 21, 21);
        }
        Fencegate must = Programs.gate("k01 s00 s10 s20", "l02 l10");
        Check.same("loads 1, then 0", must.outcomeAt('p', 2, 2) * 10 + must.outcomeAt('p', 2, 3), 10);
        sameRun("an earlier one first, though a later one must go", must, 'p', 2, 0, 0, 0, 0, 2, 2, 10, 10, 1);
        Fencegate last = Programs.gate("k01 s00 s10 s20", "l02 l10", "l02 l11");
        int index = indexOf(last, 'p', "101010111");
        sameRun("the last store must go first", last, 'p', index, 0, 0, 0, 0, 3, 10, 10, 1, 20, 20, 1);
    }

    // ---- graphs

    /**
     * "if its loads, swaps and increases read some numbers, each of 0 to 7 being tried, also if they only hold each other
     * up"
     */
    private static void numbersTried() {
        for (int first = 0; first < 8; first++) {
            for (String reads : new String[] {"l00", "x00", "i00"}) {
                Fencegate gate = withFirst(first, reads);
                Check.same(reads + " reads the first number", gate.graphs(), 1);
                for (int number = 0; number < 8; number++) {
                    Check.same(reads + " of " + first, gate.isAllowed('p', 0, number, 0), number == first);
                }
            }
        }
        // both 0 in four ways, and each of 1 to 7 if each reads what the other one stores
        Check.same("numbers that only hold each other up", Programs.gate("l00 s10", "l01 s00").graphs(), 11);
        // a load that reads what is stored behind it: 0 in two ways, and each of 1 to 7
        Check.same("a number that only holds itself up", Programs.gate("l00 s00").graphs(), 9);
        Check.same("a sum that can't hold itself up", Programs.gate("k11 l00 +001 s00").graphs(), 1);
        Check.same("a sum modulo 8 that can", Programs.gate("l00 +111 +001 s00").graphs(), 9);
    }

    /** "what it does one behind the other": each core reckons as on the machine, from registers that are 0 at first */
    private static void reckoningInGraphs() {
        for (int core = 0; core < 3; core++) {
            for (int p = 0; p < 8; p++) {
                Fencegate alone = Programs.gate(inCore(core, "+001"));
                Check.holds("registers 0 at first", alone.isAllowed('t', core, 0, 0));
                for (int q = 0; q < 8; q++) {
                    Fencegate gate = Programs.gate(inCore(core, "k0" + p + " l10 +001 s21"));
                    gate.setFirst(0, q);
                    Check.holds(p + " + " + q + " of core " + core, gate.isAllowed('t', core, (p + q) % 8, q));
                    Fencegate sum = Programs.gate(inCore(core, "k0" + p + " i00 l10"));
                    sum.setFirst(0, q);
                    Check.holds("increase " + q + " by " + p + " of core " + core, sum.isAllowed('t', core, q, (p + q) % 8));
                }
                Fencegate swap = Programs.gate(inCore(core, "k1" + p + " x12 l02"));
                swap.setFirst(2, 5);
                Check.holds("a swap of core " + core, swap.isAllowed('p', core, p, 5));
                Check.holds("twice " + p, Programs.gate(inCore(core, "k1" + p + " +111")).isAllowed('s', core, 0, 2 * p % 8));
            }
        }
        // core 1 stores what core 0 has not: its registers are its own
        Fencegate own = Programs.gate("k05 k16", "s00 l10", "s11 l01");
        Check.holds("the registers of another core", own.isAllowed('s', 1, 0, 0) && own.isAllowed('s', 2, 0, 0));
        Check.same("one outcome", own.allowed('p'), 1);
    }

    private static String[] inCore(int core, String instructions) {
        String[] cores = {"", "", ""};
        cores[core] = instructions;
        return cores;
    }

    /** The same of jumps: "goes on at the place b .., if the register a is 0, or ends the core, if there is none" */
    private static void jumpsInGraphs() {
        for (int core = 0; core < 3; core++) {
            for (int number = 0; number < 8; number++) {
                Fencegate first = Programs.gate(inCore(core, "k0" + number + " j03 k15 k06"));
                Check.holds("register 0 of core " + core, first.isAllowed('s', core, 6, number == 0 ? 0 : 5));
                Fencegate second = Programs.gate(inCore(core, "k1" + number + " j14 l02 l02"));
                second.setFirst(2, 3);
                Check.holds("register 1 of core " + core, second.isAllowed('s', core, number == 0 ? 0 : 3, number));
                Fencegate end = Programs.gate(inCore(core, "l00 j05 k14"));
                end.setFirst(0, number);
                Check.holds("the end of core " + core, end.isAllowed('s', core, number, number == 0 ? 0 : 4));
            }
        }
        // r1 = 0: two graphs, and nothing is stored; r1 = 1: the load of cell 2 reads 0 or what is stored, 2 + 2 graphs
        Fencegate some = Programs.gate("l00 l11 j15 s20 l02", "k01 s00 s10");
        Check.same("what is jumped over does nothing", some.graphs(), 6);
        // with r1 = 1 there is a swap at the end of core 2, with 0 there is none, and r0 stays what it was
        Fencegate swap = Programs.gate("k01 s00 s10", "", "l00 l11 j14 x02");
        for (char kind : KINDS) {
            Check.holds("a swap that is jumped over", swap.isAllowed(kind, 2, 1, 0) && swap.isAllowed(kind, 2, 0, 0));
            Check.same("four ways", swap.allowed(kind), 4);
        }
        Check.same("a load ahead of a jump of its own", Programs.gate("l00 j03 l01 l02").graphs(), 1);
        Check.same("each number leads its own way", Programs.gate("l00 j03 s10 s20", "s00", "k01 s00").graphs(), 2 * 3);
    }

    /** "and the first number of each cell, which stands like a store of no core, ahead of all others to it" */
    private static void firstNumbers() {
        Fencegate behind = Programs.gate("k01 s00 l10");
        Check.same("the first number, or the store", behind.graphs(), 2);
        Check.same("but the first number is ahead of the store", behind.broken('p', 'c'), 1);
        Check.holds("so the store is read", behind.isAllowed('p', 0, 1, 1));
        Check.same("and not the first number", behind.isAllowed('p', 0, 1, 0), false);
        Fencegate same = Programs.gate("s00", "l00");
        Check.same("two stores of one number", same.graphs(), 2);
        Check.same("both can be read", same.broken('s', 'c') + same.broken('s', 'o'), 0);
        Check.same("it is no number of another cell", withFirst(3, "l01").isAllowed('s', 0, 3, 0), false);
    }

    /**
     * "from which other store, swap or increase, or first number, of the same cell it reads, which must give this number"
     */
    private static void readingFromOthers() {
        Check.same("a swap is not read by itself", Programs.gate("x00").graphs(), 1);
        Check.same("nor an increase", Programs.gate("i00").graphs(), 1);
        Check.same("another cell", Programs.gate("l00", "s10 s20").graphs(), 1);
        Check.same("another number", Programs.gate("l00", "k01 s00").graphs(), 2);
        Check.same("a swap gives what the register was", Programs.gate("l00", "k03 x00").isAllowed('s', 0, 3, 0), true);
        Fencegate sum = withFirst(6, "l00", "k03 i00");
        Check.same("an increase gives the sum modulo 8", sum.isAllowed('s', 0, 1, 0), true);
        Check.same("not what it adds", sum.isAllowed('s', 0, 3, 0), false);
        Check.same("nor what it read", sum.isAllowed('s', 1, 6, 0), true);
        Check.same("a store that is jumped over", Programs.gate("l00", "j03 k01 s00").graphs(), 1);
    }

    /** "and for each cell an order of all that write to it, the first number ahead" */
    private static void ordersOfCells() {
        Check.same("none", new Fencegate().graphs(), 1);
        Check.same("one", Programs.gate("s00").graphs(), 1);
        Check.same("two", Programs.gate("s00", "s00").graphs(), 2);
        Check.same("three of one core", Programs.gate("s00 s00 s00").graphs(), 6);
        Check.same("five", Programs.gate("s00 s00 s00", "s00", "s00").graphs(), 120);
        Check.same("of three cells", Programs.gate("s00 s10 s20").graphs(), 1);
        Check.same("of two cells", Programs.gate("s00 s10", "s00 s10").graphs(), 4);
        for (int cell = 0; cell < 3; cell++) {
            String to = "s" + cell + "0";
            Fencegate most = Programs.gate("k01 " + to + " k02 " + to, "k03 " + to + " k04 " + to,
                    "k05 " + to + " l1" + (cell + 1) % 3 + " l0" + (cell + 2) % 3);
            most.setFirst((cell + 1) % 3, 6);
            most.setFirst((cell + 2) % 3, 7);
            Check.same("five to cell " + cell, most.graphs(), 120);
            Check.same("those that keep two orders of two", most.broken('s', 'c'), 120 - 30);
            Check.same("2, 4 or 5 is the last one", most.allowed('p'), 3);
            Check.holds("the other cells", most.isAllowed('t', 2, 7, 6));
        }
        Check.same("only one keeps a core's order", Programs.gate("s00 s00 s00").broken('p', 'c'), 5);
        // each increase by 0 reads 0, from the first number or from the other one
        Check.same("increases write, too", Programs.gate("i00", "i00").graphs(), 2 * (4 + 7));
    }

    /** "It is a graph of an outcome, which has the registers in the end, and for each cell the last one in its order." */
    private static void outcomesOfGraphs() {
        for (char kind : KINDS) {
            Check.same("nothing", new Fencegate().allowed(kind), 1);
            Check.same("the last of two", Programs.gate("k01 s00", "k02 s00").allowed(kind), 2);
            Check.same("of three", Programs.gate("k01 s00", "k02 s00", "k03 s00").allowed(kind), 3);
            Check.same("of two cells", Programs.gate("k01 s00 s20", "k02 s00 s20").allowed(kind), 4);
            Check.same("of one number", Programs.gate("s00", "s00").allowed(kind), 1);
            Fencegate end = withFirst(4, "l00 k05 k16");
            Check.holds("the registers in the end", end.isAllowed(kind, 0, 5, 6));
            Check.same("not what was read", end.isAllowed(kind, 0, 4, 6), false);
            Fencegate turns = Programs.gate("k01 x00", "k02 x00");
            Check.same("swaps one behind the other", turns.allowed(kind), 2);
            Check.same("the first of them reads 0", turns.isAllowed(kind, 0, 0, 0) && turns.isAllowed(kind, 1, 1, 0), true);
            Check.same("the other way round", turns.isAllowed(kind, 0, 2, 0) && turns.isAllowed(kind, 1, 0, 0), true);
        }
    }

    /** "whatever writes to its cell behind what it reads from is later than it, itself aside" */
    private static void laterThanWhatReads() {
        for (char kind : KINDS) {
            for (String reads : new String[] {"l00", "x00", "i00"}) {
                Fencegate alone = Programs.gate(reads);
                Check.same(reads + " is not later than itself", alone.broken(kind, 'c') + alone.broken(kind, 'o'), 0);
            }
        }
        // the load reads the first number; then no store is ahead of it, though it is behind one in its core's order
        Fencegate gate = withFirst(1, "s00 l10");
        Check.same("a store behind the first number", gate.broken('s', 'c'), 1);
        Check.same("it is not read", gate.isAllowed('s', 0, 0, 1), false);
    }

    // ---- rules

    /**
     * "a cycle of: the order of a core, for things of one cell; reading from; orders of cells; and what is later than what
     * reads"
     */
    private static void ruleC() {
        for (char kind : KINDS) {
            Check.same("a store and a later one", Programs.gate("s00 s00").broken(kind, 'c'), 1);
            Check.same("a load that reads a later store", Programs.gate("l00 s00").broken(kind, 'c'), 8);
            Fencegate other = Programs.gate("l00 s00", "s00");
            // the own store in two orders, of 0 and of 1 to 7, and the other one if it is behind the own store
            Check.same("a load of what is behind a later store", other.broken(kind, 'c'), 2 + 14 + 1);
            Check.same("a load behind a store", Programs.gate("k01 s00 l10").broken(kind, 'c'), 1);
            Check.same("two loads the other way round", Programs.gate("k01 s00", "l00 l10").broken(kind, 'c'), 1);
            Check.same("two cells", Programs.gate("k01 s00 s10", "l01 l10").broken(kind, 'c'), 0);
            Check.same("two cells, each read first", Programs.gate("k11 l00 s11", "k11 l01 s01").broken(kind, 'c'), 0);
            Check.same("two cores", Programs.gate("s00", "l00").broken(kind, 'c'), 0);
            Check.same("a full fence keeps no more", Programs.gate("k01 s00 f s10", "l01 f l10").broken(kind, 'c'), 0);
        }
    }

    /**
     * "if it is not by 'c', and a swap or an increase does not stand just behind what it reads from, in the order of its
     * cell"
     */
    private static void ruleA() {
        // what stands between is later than the swap and ahead of it: a cycle by 'c' already, whatever the program is
        for (char kind : KINDS) {
            for (String[] program : new String[][] {{"x00", "x00"}, {"i00", "i00"}, {"x00", "s00"}, {"i00", "s00"}, {"x00"},
                {"k01 x00", "k02 s00", "k03 s00"}, {"k01 i00", "k01 i00"}, {"s00 x00", "s00 i00"}}) {
                Fencegate gate = Programs.gate(program);
                Check.same("no graph is broken by a alone", gate.broken(kind, 'a'), 0);
            }
            Check.same("a is not o", Programs.gate("k01 s00 l11", "k01 s10 l10").broken(kind, 'a'), 0);
            // the store between, or ahead of what it reads from: of four graphs two are left
            Fencegate between = Programs.gate("k01 x00", "k02 s00");
            Check.same("graphs of a swap and a store", between.graphs(), 4);
            Check.same("with the store between, or the swap ahead of what it reads", between.broken(kind, 'c'), 2);
            Check.same("the others", between.allowed(kind), 2);
        }
    }

    private static void ordered(String what, int strict, int queued, int loose, String... cores) {
        Fencegate gate = Programs.gate(cores);
        Check.same(what + ", s", gate.broken('s', 'o'), strict);
        Check.same(what + ", t", gate.broken('t', 'o'), queued);
        Check.same(what + ", p", gate.broken('p', 'o'), loose);
    }

    /**
     * "orders of cells; what is later than what reads; reading from another core, in the kind 's' also from the own one; and
     * of the order of a core: in the kind 's', all; in the kind 't', all but a store ahead of a load, if no full fence, swap
     * or increase of the core is between; in the kind 'p', likewise, and neither a store ahead of another one, if no fence
     * of stores, full fence, swap or increase is between"
     */
    private static void ruleO() {
        ordered("a store ahead of a load", 1, 0, 0, "k01 s00 l11", "k01 s10 l10");
        ordered("with a full fence between", 1, 1, 1, "k01 s00 f l11", "k01 s10 f l10");
        ordered("with one in one core", 1, 0, 0, "k01 s00 f l11", "k01 s10 l10");
        ordered("with a fence of stores between", 1, 0, 0, "k01 s00 w l11", "k01 s10 w l10");
        ordered("with a full fence ahead of both", 1, 0, 0, "k01 f s00 l11", "k01 f s10 l10");
        ordered("with a full fence behind both", 1, 0, 0, "k01 s00 l11 f", "k01 s10 l10 f");
        ordered("with a full fence that is jumped over", 1, 0, 0, "k01 s00 j14 f l11", "k01 s10 j14 f l10");
        ordered("with a swap between", 1, 1, 1, "k01 s00 x12 l11", "k01 s10 f l10");
        ordered("with an increase between", 1, 1, 1, "k01 s00 i12 l11", "k01 s10 f l10");
        ordered("a store ahead of another one", 1, 1, 0, "k01 s00 s10", "l01 l10");
        ordered("with a fence of stores between stores", 1, 1, 1, "k01 s00 w s10", "l01 l10");
        ordered("with a full fence between stores", 1, 1, 1, "k01 s00 f s10", "l01 l10");
        ordered("with a swap between stores", 1, 1, 1, "k01 s00 x12 s10", "l01 l10");
        ordered("with an increase between stores", 1, 1, 1, "k01 s00 i12 s10", "l01 l10");
        ordered("with a fence of stores ahead of both", 1, 1, 0, "k01 w s00 s10", "l01 l10");
        ordered("with a fence of stores behind both", 1, 1, 0, "k01 s00 s10 w", "l01 l10");
        ordered("with a load between stores", 1, 1, 0, "k01 s00 l12 s10", "l01 l10");
        ordered("two stores of each core", 1, 1, 0, "k01 s00 k02 s10", "k01 s10 k02 s00");
        ordered("a load ahead of a store", 1, 1, 1, "k11 l00 s11", "k11 l01 s01");
        ordered("a load ahead of a load, and the order of a cell", 1, 1, 0, "k02 s00 k01 s10", "k11 l01 s01");
        ordered("stores, and a store ahead of a load", 1, 0, 0, "k01 s00 s10", "k02 s10 l10");
        ordered("the same with a full fence", 1, 1, 0, "k01 s00 s10", "k02 s10 f l10");
        ordered("reading from other cores", 1, 1, 1, "k01 s00", "k11 l00 s11", "l01 l10");
        ordered("reading from the own core", 1, 0, 0, "k01 s00 l00 l11", "k01 s10 l01 l10");
        ordered("what the rule c breaks does not count", 0, 0, 0, "s00 s00");
        ordered("nothing", 0, 0, 0);
    }

    /** "Swaps and increases are neither stores nor loads in this." */
    private static void swapsAreNeither() {
        for (char kind : QUEUED) {
            for (String[] program : new String[][] {
                {"k01 s00 i11", "k01 s10 i10"}, {"k01 s00 x11", "k01 s10 x10"}, {"k01 k12 i00 l11", "k01 k12 i01 l10"},
                {"k01 k11 s00 i11", "l01 l10"}, {"k11 k01 i00 s11", "l01 l10"}, {"k11 k01 x00 s11", "l01 l10"}}) {
                Fencegate gate = Programs.gate(program);
                Check.same("as many as in the kind s", gate.allowed(kind), gate.allowed('s'));
                Check.same("as many are broken", gate.broken(kind, 'o'), gate.broken('s', 'o'));
                Check.holds("some are broken", gate.broken('s', 'o') > 0);
            }
        }
    }

    // ---- races and fences

    private static void sameRaces(String what, Fencegate gate, int... due) {
        Check.same(what + ": how many", gate.races(), due.length);
        for (int i = 0; i < due.length; i++) {
            Check.same(what + ": race " + i, gate.raceAt(i), due[i]);
        }
    }

    /** "both cores are at these places, both instructions are loads or stores of one cell, and one of them is a store" */
    private static void races() {
        sameRaces("no instruction", new Fencegate());
        sameRaces("one core", Programs.gate("s00 s00 l00"));
        sameRaces("two loads", Programs.gate("l00", "l00"));
        sameRaces("a load and a store", Programs.gate("l00", "s00"), 10);
        sameRaces("a store and a load", Programs.gate("s00", "", "l00"), 20);
        sameRaces("two stores", Programs.gate("", "s00", "s00"), 1020);
        sameRaces("two cells", Programs.gate("s00", "s10", "l02"));
        sameRaces("the register does not count", Programs.gate("s01", "s00"), 10);
        sameRaces("swaps and increases", Programs.gate("s00", "x00", "i00"));
        sameRaces("fences", Programs.gate("s00", "w", "f"));
        sameRaces("the last places", Programs.gate("", "f f f f l02", "f f f f s20"), 1424);
        sameRaces("all pairs of places", Programs.gate("s00 s00", "s00 l00"), 10, 11, 110, 111);
        sameRaces("a place that is jumped over", Programs.gate("j02 s00", "s00"));
        sameRaces("an end that is jumped to", Programs.gate("j05 s00", "s00 l00"));
        Fencegate most = Programs.gate("s00 s00 s00 l00 l00", "s00 s00 s00 l00 l00", "s00 s00 s00 l00 l00");
        Check.same("as many as there can be", most.races(), 3 * (25 - 4));
        Check.same("the last of them", most.raceAt(62), 1422);
        Fencegate shorter = Programs.gate("f s00", "f s00", "f s00");
        Programs.fill(shorter, "f", "s00", "f");
        sameRaces("an end where a store has been once", shorter);
        Programs.fill(shorter, "s00", "f", "f");
        sameRaces("the same of a higher core", shorter);
        sameRaces("never both at once", Programs.gate("k01 s00 k11 s11", "l01 j05 l10"), 310);
    }

    /** "in the kind 's', in a state that can be reached" */
    private static void racesAreStrict() {
        // with queues, both cores can load 1, and then be at their last places together
        Fencegate gate = Programs.gate("s00 l01 j05 l02", "s10 l00 j05 s20");
        gate.setFirst(0, 1);
        gate.setFirst(1, 1);
        gate.setKind('t');
        sameRaces("not in the kind t", gate, 11, 110);
        Check.same("with queues there is one more outcome", gate.outcomes('t') - gate.outcomes('s'), 1);
        Check.holds("fences have been sought", gate.fences('p') > 0);
        sameRaces("nor when its states have been asked for", gate, 11, 110);
    }

    private static void sameFences(String what, Fencegate gate, char kind, int... due) {
        Check.same(what + ": how many", gate.fences(kind), due.length);
        for (int i = 0; i < due.length; i++) {
            Check.same(what + ": fence " + i, gate.fenceAt(kind, i), due[i]);
        }
        Check.fails(what + ": no more", "IndexOutOfBoundsException", () -> gate.fenceAt(kind, due.length));
    }

    /** "Putting a full fence ahead of a place other than the first one of a core", "the lowest first" */
    private static void fences() {
        String[] held = {"k01 s10 f l10", "k01 s10 l10"};
        for (char kind : KINDS) {
            sameFences("no instruction", new Fencegate(), kind);
            sameFences("one core", Programs.gate("k01 s00 l11 s10 l00"), kind);
        }
        for (char kind : QUEUED) {
            sameFences("one of two places", Programs.gate("k01 s00 k05 l11", held[0]), kind, 2);
            sameFences("the last place", Programs.gate("k01 f f s00 l11", held[0]), kind, 4);
            sameFences("the second place", Programs.gate("s00 l01", "s10 f l00"), kind);
            Fencegate ones = Programs.gate("s00 l01", "s10 f l00");
            ones.setFirst(0, 1);
            ones.setFirst(1, 1);
            sameFences("the second place, ones", ones, kind, 1);
            sameFences("of the last core", Programs.gate(held[0], "", "k01 s00 l11"), kind, 22);
            sameFences("ahead of a jump", Programs.gate("k01 s00 j14 k05 l11", held[0]), kind, 2);
        }
        sameFences("ahead of a store", Programs.gate("k01 s00 s10", "l01 l10"), 'p', 2);
        sameFences("not of the other core, which waits for nothing", Programs.gate("l01 l10", "k01 s00 s10"), 'p', 12);
        Fencegate none = Programs.gate("k01 s00 s10", "l01 l10");
        none.fences('p');
        Check.same("the program has no fence", none.outcomes('p') - none.outcomes('s'), 1);
    }

    /** "0 to 2 of them; of several, places are compared from the first one on, in their order, by cores, then by places" */
    private static void twoFences() {
        for (char kind : QUEUED) {
            sameFences("one in each core", Programs.gate("k01 s00 l11", "k01 s10 l10"), kind, 2, 12);
            sameFences("the lowest ones", Programs.gate("k01 s00 k05 l11", "k01 s10 k05 l10"), kind, 2, 12);
            sameFences("of the last cores", Programs.gate("", "k01 s00 l11", "k01 s10 l10"), kind, 12, 22);
            Fencegate three = Programs.gate("k01 s00 l11", "k01 s10 l12", "k01 s20 l10");
            Check.fails("three are needed", UNSUPPORTED, () -> three.fences(kind));
        }
        sameFences("both in one core", Programs.gate("k01 s00 s10 s20", "l02 l11", "l01 l10"), 'p', 2, 3);
        sameFences("one core, the last two places", Programs.gate("k01 w s00 s10 s20", "l02 l11", "l01 l10"), 'p', 3, 4);
    }
}
