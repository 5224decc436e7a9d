import java.util.List;

/** The promises one by one: ordinary calls, the edges that the document names, and wrong arguments. */
final class FencegateTest {
    private static final String INDEX = "IndexOutOfBoundsException";
    private static final String ARGUMENT = "IllegalArgumentException";
    private static final String STATE = "IllegalStateException";
    private static final String UNSUPPORTED = "UnsupportedOperationException";
    private static final String ELEMENT = "NoSuchElementException";
    private static final int[] NO_THREE = {-1, 3, Integer.MIN_VALUE, Integer.MAX_VALUE};
    private static final char[] KINDS = {'s', 't', 'p'};

    /** Each of two cores stores one cell and loads the other. */
    private static final String[] CROSS = {"k01 s00 l11", "k01 s10 l10"};
    /** One core stores two cells, the other loads them the other way round. */
    private static final String[] MESSAGE = {"k01 s00 s10", "l01 l10"};
    /** 4001 states in the kind 'p'. */
    private static final String[] TOO_MANY = {"l00 l10 s20 s11", "k02 s11 l12 s11 s00", "s10 l00 s20 s11"};
    /** More than 4000 states in the kind 't', too. */
    private static final String[] FAR_TOO_MANY = {"k01 s00 s10 l12 s20", "k02 s10 s00 l02 s20", "l00 s20 l11 s00 s10"};

    public static void main(String[] args) {
        newObject();
        add();
        clear();
        setFirst();
        setKind();
        stepReckons();
        stepJumps();
        stepAndQueue();
        drainInOrder();
        drainOutOfOrder();
        marks();
        looks();
        choices();
        play();
        states();
        outcomes();
        shortest();
        isStrict();
        graphs();
        broken();
        allowed();
        isAllowed();
        isSame();
        races();
        fences();
        sums();
        programsAreForgotten();
        Check.report("FencegateTest");
    }

    // ---- promises 1 to 5

    private static void newObject() {
        Fencegate gate = new Fencegate();
        for (int core = 0; core < 3; core++) {
            int c = core;
            Check.same("new place", gate.place(core), 0);
            Check.same("new queue", gate.queue(core), 0);
            Check.same("new registers", gate.register(core, 0) + gate.register(core, 1), 0);
            Check.same("new cell", gate.cell(core), 0);
            Check.fails("new step", ELEMENT, () -> gate.step(c));
            Check.same("new core", gate.clear(core), 0);
        }
        Check.same("new choices", gate.choices(), 0);
        Check.same("new kind", gate.setKind('p'), 's');
        Check.same("new states", gate.states('p'), 1);
    }

    private static void add() {
        Fencegate gate = new Fencegate();
        String[] all = {"k07", "+011", "l12", "x12", "i02"};
        for (int place = 0; place < 5; place++) {
            String it = all[place];
            int c = it.length() > 3 ? it.charAt(3) - '0' : -9;
            Check.same("add " + it, gate.add(0, it.charAt(0), it.charAt(1) - '0', it.charAt(2) - '0', c), place);
        }
        Check.same("add s", gate.add(1, 's', 2, 1, 99), 0);
        Check.same("add w, numbers of no meaning", gate.add(1, 'w', -7, 1000, Integer.MIN_VALUE), 1);
        Check.same("add f, numbers of no meaning", gate.add(1, 'f', 55, -55, Integer.MAX_VALUE), 2);
        Check.same("add k, c of no meaning", gate.add(1, 'k', 1, 0, -1), 3);
        Check.same("add j", gate.add(1, 'j', 1, 5, -1), 4);
        Check.fails("a sixth one", STATE, () -> gate.add(1, 'k', 0, 0, 0));
        Check.fails("a sixth one of another core", STATE, () -> gate.add(0, 'f', 0, 0, 0));

        Fencegate stores = Programs.gate("s00 s10 s21");
        Check.fails("a fourth store", STATE, () -> stores.add(0, 's', 0, 0, 0));
        Check.same("a swap is no store", stores.add(0, 'x', 0, 0, 0), 3);
        Check.same("an increase is no store", stores.add(0, 'i', 0, 0, 0), 4);
        Check.same("a store of another core", stores.add(1, 's', 0, 0, 0), 0);

        Fencegate moved = Programs.gate("k05", "k06");
        moved.setKind('t');
        moved.step(0);
        moved.add(1, 's', 0, 0, 0);
        Check.same("add goes to the first state", moved.place(0) + moved.register(0, 0), 0);
        Check.same("add leaves the kind", moved.setKind('s'), 't');
    }

    private static void clear() {
        Fencegate gate = Programs.gate("k01 s00", "l00", "");
        gate.setKind('t');
        gate.step(0);
        Check.same("clear", gate.clear(1), 1);
        Check.same("clear goes to the first state", gate.place(0) + gate.register(0, 0), 0);
        Check.same("clear again", gate.clear(1), 0);
        Check.same("clear another", gate.clear(0), 2);
        Check.same("clear leaves the kind", gate.setKind('s'), 't');
        Check.same("nothing is left", gate.states('p'), 1);
        for (int core : NO_THREE) {
            Check.fails("clear no core", INDEX, () -> gate.clear(core));
        }
        Programs.fill(gate, "s00 s00 s00");
        gate.clear(0);
        Check.same("stores do not count any more", gate.add(0, 's', 0, 0, 0), 0);
    }

    private static void setFirst() {
        Fencegate gate = Programs.gate("l01");
        Check.same("setFirst", gate.setFirst(1, 7), 0);
        Check.same("setFirst again", gate.setFirst(1, 5), 7);
        Check.same("the cell", gate.cell(1), 5);
        gate.step(0);
        Check.same("what is loaded", gate.register(0, 0), 5);
        Check.same("setFirst of another", gate.setFirst(2, 3), 0);
        Check.same("setFirst goes to the first state", gate.place(0), 0);
        Check.same("setFirst leaves the others", gate.cell(1), 5);
        for (int cell : NO_THREE) {
            Check.fails("setFirst of no cell", INDEX, () -> gate.setFirst(cell, 9));
        }
        for (int number : new int[] {-1, 8, Integer.MAX_VALUE, Integer.MIN_VALUE}) {
            Check.fails("setFirst to no number", ARGUMENT, () -> gate.setFirst(1, number));
        }
        Check.same("setFirst to the same", gate.setFirst(1, 5), 5);
    }

    private static void setKind() {
        Fencegate gate = Programs.gate("k03 s00");
        Check.same("setKind t", gate.setKind('t'), 's');
        Check.same("setKind p", gate.setKind('p'), 't');
        gate.step(0);
        gate.step(0);
        Check.same("it waits", gate.queue(0), 1);
        Check.same("setKind s", gate.setKind('s'), 'p');
        Check.same("setKind goes to the first state", gate.place(0) + gate.queue(0) + gate.register(0, 0), 0);
        gate.step(0);
        gate.step(0);
        Check.same("a store is done at once", gate.cell(0), 3);
        Check.same("setKind to the same", gate.setKind('s'), 's');
        Check.same("it goes to the first state all the same", gate.cell(0), 0);
    }

    // ---- promises 6 to 13

    private static void stepReckons() {
        Fencegate gate = Programs.gate("k07 k13 +001 +111 i01", "k12 x10 s10 i10 l00");
        gate.setFirst(0, 5);
        gate.setFirst(1, 6);
        for (int i = 0; i < 4; i++) {
            Check.holds("step", gate.step(0));
        }
        Check.same("a sum modulo 8", gate.register(0, 0), 2);
        Check.same("a sum with itself", gate.register(0, 1), 6);
        Check.holds("an increase", gate.step(0));
        Check.same("the register has the cell", gate.register(0, 0), 6);
        Check.same("the cell has the sum modulo 8", gate.cell(1), 0);
        gate.step(1);
        gate.step(1);
        Check.same("a swap gives the cell", gate.register(1, 1), 5);
        Check.same("a swap gives the register", gate.cell(0), 2);
        gate.step(1);
        Check.same("a store", gate.cell(1), 0);
        gate.step(1);
        Check.same("an increase's register", gate.register(1, 1), 2);
        Check.same("an increase's cell", gate.cell(0), 7);
        gate.step(1);
        Check.same("a load", gate.register(1, 0), 7);
        Check.fails("a core that has ended", ELEMENT, () -> gate.step(1));
        for (int core : NO_THREE) {
            Check.fails("step of no core", INDEX, () -> gate.step(core));
        }
    }

    private static void stepJumps() {
        Fencegate gate = Programs.gate("j03 k01 k02 k13", "k01 j03 k05 k13", "j05 k01");
        gate.step(0);
        Check.same("a jump", gate.place(0), 3);
        gate.step(0);
        Check.same("behind a jump", gate.register(0, 1), 3);
        Check.same("what has been left out", gate.register(0, 0), 0);
        gate.step(1);
        gate.step(1);
        Check.same("no jump", gate.place(1), 2);
        gate.step(2);
        Check.same("a jump to no place ends the core", gate.place(2), 2);
        Check.fails("it has ended", ELEMENT, () -> gate.step(2));

        Fencegate other = Programs.gate("j13 k01 j14 f f");
        other.step(0);
        Check.same("a jump that looks at register 1", other.place(0), 3);
        Fencegate end = Programs.gate("j01");
        end.step(0);
        Check.same("a jump to the end", end.place(0), 1);
    }

    private static void stepAndQueue() {
        for (char kind : new char[] {'t', 'p'}) {
            Fencegate gate = Programs.gate("k03 s00 l10 s01 l00", "l00 f x10");
            gate.setKind(kind);
            gate.step(0);
            gate.step(0);
            Check.same("the store waits", gate.cell(0), 0);
            gate.step(0);
            Check.same("the own store is seen", gate.register(0, 1), 3);
            gate.step(0);
            gate.step(0);
            Check.same("the latest own store is seen", gate.register(0, 0), 3);
            gate.step(1);
            Check.same("another core sees the cell", gate.register(1, 0), 0);
            Check.holds("a full fence with an empty queue", gate.step(1));
            Check.same("two wait", gate.queue(0), 2);

            Fencegate latest = Programs.gate("k01 s00 k02 s00 l10");
            latest.setKind(kind);
            for (int i = 0; i < 5; i++) {
                latest.step(0);
            }
            Check.same("of two own stores the latest is seen", latest.register(0, 1), 2);

            for (String waiting : new String[] {"x10", "i10", "f"}) {
                Fencegate held = Programs.gate("k01 s10 " + waiting);
                held.setKind(kind);
                held.step(0);
                held.step(0);
                Check.same(waiting + " waits", held.step(0), false);
                Check.same(waiting + " changes nothing", held.place(0) * 10 + held.queue(0), 21);
                Check.holds("the store leaves", held.drain(0, 0));
                Check.holds(waiting + " is done", held.step(0));
                Check.same(waiting + " goes on", held.place(0), 3);
            }
            Fencegate free = Programs.gate("k01 s10 w +000 j15");
            free.setKind(kind);
            for (int i = 0; i < 5; i++) {
                Check.holds("can always be done", free.step(0));
            }
        }
    }

    private static void drainInOrder() {
        Fencegate gate = Programs.gate("k01 k12 s00 s11 s20");
        gate.setKind('t');
        for (int i = 0; i < 5; i++) {
            gate.step(0);
        }
        Check.same("the second one can't leave", gate.drain(0, 1), false);
        Check.same("the third one can't leave", gate.drain(0, 2), false);
        Check.same("nothing has changed", gate.queue(0) + gate.cell(1) + gate.cell(2), 3);
        Check.fails("no fourth one", ELEMENT, () -> gate.drain(0, 3));
        Check.fails("none ahead of the first", ELEMENT, () -> gate.drain(0, -1));
        Check.fails("none of another core", ELEMENT, () -> gate.drain(1, 0));
        for (int core : NO_THREE) {
            Check.fails("drain of no core", INDEX, () -> gate.drain(core, 9));
        }
        Check.holds("the first one", gate.drain(0, 0));
        Check.same("its cell", gate.cell(0), 1);
        Check.same("the next one is the first now", gate.storeAt(0, 0), 12);
        Check.holds("the next one", gate.drain(0, 0));
        Check.holds("the last one", gate.drain(0, 0));
        Check.same("all cells", gate.cell(0) * 100 + gate.cell(1) * 10 + gate.cell(2), 121);
        Check.fails("no more", ELEMENT, () -> gate.drain(0, 0));
        Fencegate strict = Programs.gate("s00");
        strict.step(0);
        Check.fails("no queue in the kind s", ELEMENT, () -> strict.drain(0, 0));
    }

    private static void drainOutOfOrder() {
        Fencegate gate = Programs.gate("k01 k12 s00 s11 s01");
        gate.setKind('p');
        for (int i = 0; i < 5; i++) {
            gate.step(0);
        }
        Check.same("one to the same cell is ahead", gate.drain(0, 2), false);
        Check.holds("another cell", gate.drain(0, 1));
        Check.same("its cell", gate.cell(1), 2);
        Check.same("the order of the others", gate.storeAt(0, 0) * 1000 + gate.storeAt(0, 1), 1002);
        Check.same("one to the same cell is ahead still", gate.drain(0, 1), false);
        Check.holds("the first one", gate.drain(0, 0));
        Check.holds("the last one", gate.drain(0, 0));
        Check.same("the cell has the latest", gate.cell(0), 2);

        Fencegate last = Programs.gate("s00 s10 s20");
        last.setKind('p');
        for (int i = 0; i < 3; i++) {
            last.step(0);
        }
        Check.holds("the last one first", last.drain(0, 2));
        Check.same("two are left", last.queue(0), 2);
    }

    private static void marks() {
        Fencegate gate = Programs.gate("k01 s00 w s10 s20");
        gate.setKind('p');
        for (int i = 0; i < 5; i++) {
            gate.step(0);
        }
        Check.same("a mark", gate.storeAt(0, 1), 111);
        Check.same("no mark on the next", gate.storeAt(0, 2), 21);
        Check.same("a marked one can't leave", gate.drain(0, 1), false);
        Check.same("nor one behind it", gate.drain(0, 2), false);
        Check.holds("the first one can", gate.drain(0, 0));
        Check.same("the marked one is the first now", gate.storeAt(0, 0), 111);
        Check.holds("its mark is put aside for those behind it", gate.drain(0, 1));
        Check.holds("and for itself", gate.drain(0, 0));

        Fencegate queued = Programs.gate("s00 w k15 l00 s11");
        queued.setKind('t');
        for (int i = 0; i < 5; i++) {
            queued.step(0);
        }
        Check.same("a mark in the kind t, whatever comes between", queued.storeAt(0, 1), 115);

        Fencegate empty = Programs.gate("w s00 s10");
        empty.setKind('p');
        for (int i = 0; i < 3; i++) {
            empty.step(0);
        }
        Check.same("no mark if the queue was empty", empty.storeAt(0, 0) + empty.storeAt(0, 1), 10);

        Fencegate drained = Programs.gate("s00 w f s10");
        drained.setKind('p');
        drained.step(0);
        drained.step(0);
        drained.drain(0, 0);
        drained.step(0);
        drained.step(0);
        Check.same("a mark if the queue was not empty at the fence", drained.storeAt(0, 0), 110);

        // place, queue and the mark for the next store: behind the fence, the mark tells two states apart
        Check.same("the mark for the next store is of the state", Programs.gate("s00 w").states('t'), 6);
        Check.same("no marks in the kind s", Programs.gate("s00 w s10 w").states('s'), 5);
    }

    private static void looks() {
        Fencegate gate = Programs.gate("k05 k16 s21 k03");
        gate.setKind('t');
        for (int i = 0; i < 4; i++) {
            gate.step(0);
        }
        Check.same("place", gate.place(0), 4);
        Check.same("place of another", gate.place(1), 0);
        Check.same("register 0", gate.register(0, 0), 3);
        Check.same("register 1", gate.register(0, 1), 6);
        Check.same("register of another", gate.register(2, 1), 0);
        Check.same("queue", gate.queue(0), 1);
        Check.same("storeAt", gate.storeAt(0, 0), 26);
        Check.same("cell", gate.cell(2), 0);
        for (int no : NO_THREE) {
            Check.fails("place of no core", INDEX, () -> gate.place(no));
            Check.fails("register of no core", INDEX, () -> gate.register(no, 0));
            Check.fails("queue of no core", INDEX, () -> gate.queue(no));
            Check.fails("storeAt of no core", INDEX, () -> gate.storeAt(no, 9));
            Check.fails("no cell", INDEX, () -> gate.cell(no));
        }
        for (int no : new int[] {-1, 2, Integer.MAX_VALUE, Integer.MIN_VALUE}) {
            Check.fails("no register", INDEX, () -> gate.register(0, no));
        }
        for (int no : new int[] {-1, 1, 2, 3, Integer.MAX_VALUE, Integer.MIN_VALUE}) {
            Check.fails("no store", ELEMENT, () -> gate.storeAt(0, no));
            Check.fails("no store to do", ELEMENT, () -> gate.drain(0, no));
        }
    }

    private static void choices() {
        Fencegate gate = Programs.gate("s00 s10 f", "l00", "");
        Check.same("choices of cores", gate.choices(), 2);
        gate.setKind('p');
        gate.step(0);
        Check.same("a store of a queue is one", gate.choices(), 3);
        gate.step(0);
        Check.same("two stores, but no fence", gate.choices(), 3);
        gate.drain(0, 1);
        gate.drain(0, 0);
        Check.same("the fence", gate.choices(), 2);
        gate.setKind('t');
        gate.step(0);
        gate.step(0);
        Check.same("only the first store", gate.choices(), 2);
        Check.same("looking changes nothing", gate.place(0) * 10 + gate.queue(0), 22);
    }

    // ---- promises 14 to 20

    private static void play() {
        Fencegate gate = Programs.gate(CROSS);
        gate.setKind('p');
        Check.same("play", gate.play('t', 0), 8);
        Check.same("both loaded 0", gate.register(0, 1) + gate.register(1, 1), 0);
        Check.same("all is done", gate.cell(0) + gate.cell(1) + gate.queue(0) + gate.queue(1), 2);
        Check.same("places in the end", gate.place(0) * 10 + gate.place(1), 33);
        Check.fails("no such outcome", INDEX, () -> gate.play('t', 4));
        Check.fails("no such outcome", INDEX, () -> gate.play('s', -1));
        Check.same("nothing has changed", gate.place(0), 3);
        Check.same("the kind that it played", gate.setKind('s'), 't');
        Check.same("play from the first state", gate.play('s', 2), 6);
        Check.same("play nothing", new Fencegate().play('p', 0), 0);
        // not from where the machine is: another run before must leave nothing
        for (int index = 0; index < 4; index++) {
            gate.setKind('p');
            gate.step(0);
            gate.step(0);
            Check.same("play one behind the other", gate.play('t', index), 8);
            for (int what = 0; what < 4; what++) {
                Check.same("number " + what, gate.register(what / 2, what % 2), gate.outcomeAt('t', index, what));
            }
            Check.same("nothing waits", gate.queue(0) + gate.queue(1), 0);
        }
        Fencegate sum = Programs.gate("k03 i00");
        sum.play('s', 0);
        sum.play('s', 0);
        Check.same("a run twice is as a run once", sum.cell(0), 3);
    }

    private static void states() {
        Check.same("states of nothing", new Fencegate().states('p'), 1);
        Check.same("states of one core", Programs.gate("k01 s00").states('s'), 3);
        Check.same("states with a queue", Programs.gate("k01 s00").states('t'), 4);
        Check.same("a swap without a queue", Programs.gate("x00").states('p'), 2);
        Fencegate gate = Programs.gate("k01 s00 s10", "l01 l10");
        Check.same("states", gate.states('s'), 16);
        Check.same("states out of order", gate.states('p'), 32);
        Fencegate most = Programs.gate("k01 s00 s11", "k02 s10 s01 s10 l00", "x10 s20 s00 l00");
        Check.same("4000 states", most.states('p'), 4000);
        Check.holds("their outcomes", most.outcomes('p') > 0);
        Check.fails("4001 states", UNSUPPORTED, () -> Programs.gate(TOO_MANY).states('p'));
        Check.same("as many in another kind", Programs.gate(TOO_MANY).states('t'), 1648);
    }

    private static void outcomes() {
        Fencegate gate = Programs.gate(CROSS);
        Check.same("strict outcomes", gate.outcomes('s'), 3);
        Check.same("outcomes with queues", gate.outcomes('t'), 4);
        int[][] due = {{1, 0, 1, 0}, {1, 0, 1, 1}, {1, 1, 1, 0}, {1, 1, 1, 1}};
        for (int i = 0; i < 4; i++) {
            for (int what = 0; what < 4; what++) {
                Check.same("outcome " + i, gate.outcomeAt('t', i, what), due[i][what]);
            }
            Check.same("a core that has nothing to do", gate.outcomeAt('t', i, 4) + gate.outcomeAt('t', i, 5), 0);
            Check.same("cells", gate.outcomeAt('t', i, 6) * 10 + gate.outcomeAt('t', i, 7), 11);
        }
        for (int what : new int[] {-1, 9, Integer.MAX_VALUE, Integer.MIN_VALUE}) {
            Check.fails("what is asked counts first", ARGUMENT, () -> gate.outcomeAt('t', 9, what));
        }
        for (int no : new int[] {-1, 4, Integer.MAX_VALUE, Integer.MIN_VALUE}) {
            Check.fails("outcomeAt nothing", INDEX, () -> gate.outcomeAt('t', no, 0));
            Check.fails("shortest to nothing", INDEX, () -> gate.shortest('t', no));
            Check.fails("stepAt to nothing", INDEX, () -> gate.stepAt('t', no, 0));
            Check.fails("isStrict of nothing", INDEX, () -> gate.isStrict('t', no));
            Check.fails("play to nothing", INDEX, () -> gate.play('t', no));
        }
        Fencegate cells = Programs.gate("k01 s00 s10 s20", "k02 s00", "");
        Check.same("cell numbers tell outcomes apart", cells.outcomes('s'), 2);
        Check.same("lesser cells first", cells.outcomeAt('s', 0, 6) * 10 + cells.outcomeAt('s', 1, 6), 12);
        Check.same("the last cell", cells.outcomeAt('s', 1, 8), 1);
        // the mark for the next store is of the state, not of the outcome
        Check.same("states with and without a mark have one outcome", Programs.gate("s00 w").outcomes('t'), 1);
    }

    private static void shortest() {
        Fencegate gate = Programs.gate(CROSS);
        int[] due = {0, 0, 0, 10, 10, 10, 1, 11};
        Check.same("its length", gate.shortest('t', 0), 8);
        for (int i = 0; i < 8; i++) {
            Check.same("step " + i, gate.stepAt('t', 0, i), due[i]);
        }
        for (int no : new int[] {-1, 8, Integer.MAX_VALUE, Integer.MIN_VALUE}) {
            Check.fails("no such step", INDEX, () -> gate.stepAt('t', 0, no));
        }
        Fencegate late = Programs.gate("k01 s00 s10", "l01 l10");
        int[] lateDue = {0, 0, 0, 2, 10, 10, 1};
        Check.same("loads 1, then 0", late.outcomeAt('p', 2, 2) * 10 + late.outcomeAt('p', 2, 3), 10);
        for (int i = 0; i < 7; i++) {
            Check.same("step " + i + " of a store that overtakes", late.stepAt('p', 2, i), lateDue[i]);
        }
        Fencegate jump = Programs.gate("l10 j13 k05", "k01 s00");
        Check.same("a run with a jump is shorter", jump.shortest('s', 0) * 10 + jump.shortest('s', 1), 45);
        Fencegate third = Programs.gate("", "", "s00 s10");
        Check.same("a step of the last core", third.stepAt('p', 0, 3), 21);
        Check.fails("no steps of nothing", INDEX, () -> new Fencegate().stepAt('s', 0, 0));
    }

    private static void isStrict() {
        Fencegate gate = Programs.gate(CROSS);
        Check.same("both load 0", gate.isStrict('t', 0), false);
        for (int i = 1; i < 4; i++) {
            Check.holds("strict", gate.isStrict('t', i) && gate.isStrict('p', i));
        }
        for (int i = 0; i < 3; i++) {
            Check.holds("the strict ones are", gate.isStrict('s', i));
        }
        // the last outcome of the first program is strict, and the same one of the second program is not
        Fencegate used = Programs.gate("l11 s00", "s10 l10");
        used.setFirst(0, 1);
        used.setFirst(1, 1);
        Check.same("all four", used.outcomes('s') * 10 + used.outcomes('t'), 44);
        Check.holds("both load 1", used.isStrict('t', 3));
        Programs.fill(used, "s00 l11", "s10 l10");
        Check.same("three of four", used.outcomes('s') * 10 + used.outcomes('t'), 34);
        Check.same("both load 1, but not strictly", used.isStrict('t', 3), false);
        Check.same("their share", used.strictShare('t'), 0.75f);
    }

    // ---- promises 21 to 25

    private static void graphs() {
        Check.same("graphs of nothing", new Fencegate().graphs(), 1);
        Check.same("graphs", Programs.gate(CROSS).graphs(), 4);
        Check.same("orders of one cell", Programs.gate("s00 s00", "s00").graphs(), 6);
        Check.same("sources of one number", Programs.gate("l00", "s00 s00").graphs(), 6);
        Check.same("a number that only holds itself up", Programs.gate("l00 s10", "l01 s00").graphs(), 11);
        Check.same("a number that needs itself", Programs.gate("k11 l00 +001 s00").graphs(), 1);
        Check.same("a swap does not read from itself", Programs.gate("x00").graphs(), 1);
        Check.same("reads that are jumped over", Programs.gate("l00 j03 l01", "k01 s10").graphs(), 1);
        Fencegate most = Programs.gate("l00 l00 x00 i00", "s00 s10 s20", "");
        Check.holds("4 that read and 5 that write", most.graphs() > 0);
        most.add(2, 'l', 0, 0, 0);
        Check.fails("5 that read", UNSUPPORTED, most::graphs);
        most.clear(2);
        most.add(2, 's', 0, 0, 0);
        Check.fails("6 that write", UNSUPPORTED, most::graphs);
        most.clear(2);
        most.add(2, 'f', 0, 0, 0);
        Check.holds("fences do not count", most.graphs() > 0);
        Check.holds("some millions of graphs", Programs.gate("l00 s00 l00 s00", "l00 s00 l00 s00", "s00").graphs() == 4389120);
    }

    private static void broken() {
        Fencegate gate = Programs.gate(CROSS);
        Check.same("broken o s", gate.broken('s', 'o'), 1);
        Check.same("broken o t", gate.broken('t', 'o'), 0);
        Check.same("broken c", gate.broken('s', 'c'), 0);
        Fencegate message = Programs.gate(MESSAGE);
        Check.same("stores kept in order", message.broken('t', 'o'), 1);
        Check.same("stores not kept in order", message.broken('p', 'o'), 0);
        Fencegate one = Programs.gate("k01 s00 l10");
        Check.same("a core reads behind its own store", one.graphs() - one.broken('p', 'c'), 1);
        Fencegate fenced = Programs.gate("k01 s00 f l11", "k01 s10 f l10");
        Check.same("full fences keep the order", fenced.broken('p', 'o'), 1);
        Fencegate half = Programs.gate("k01 s00 w l11", "k01 s10 w l10");
        Check.same("fences of stores do not, for loads", half.broken('p', 'o'), 0);
        Fencegate wall = Programs.gate("k01 s00 w s10", "l01 l10");
        Check.same("but for stores", wall.broken('p', 'o'), 1);
        Fencegate both = Programs.gate("k01 s00 f w s10", "l01 l10");
        Check.same("and one more fence does not undo it", both.broken('p', 'o'), 1);
        Fencegate jumped = Programs.gate("k01 s00 j14 f l11", "k01 s10 j14 f l10");
        Check.same("a fence that is jumped over keeps nothing", jumped.broken('t', 'o'), 0);
        Fencegate swaps = Programs.gate("k01 s00 x02 l11", "k01 s10 i02 l10");
        Check.same("swaps and increases keep the order", swaps.broken('t', 'o'), swaps.broken('s', 'o'));
        Fencegate twice = Programs.gate("k01 i00", "k01 i00");
        for (char kind : KINDS) {
            Check.same("a swap not just behind what it reads from is broken by c", twice.broken(kind, 'a'), 0);
            Check.same("an increase after the other", twice.graphs() - twice.broken(kind, 'c'), 2);
        }
        for (char rule : new char[] {'x', 'C', 0, 's'}) {
            Check.fails("no such rule", ARGUMENT, () -> gate.broken('s', rule));
        }
    }

    private static void allowed() {
        Fencegate gate = Programs.gate(CROSS);
        Check.same("allowed s", gate.allowed('s'), 3);
        Check.same("allowed t", gate.allowed('t'), 4);
        Check.same("allowed p", gate.allowed('p'), 4);
        Fencegate message = Programs.gate(MESSAGE);
        Check.same("allowed t", message.allowed('t'), 3);
        Check.same("allowed p", message.allowed('p'), 4);
        Check.same("allowed of nothing", new Fencegate().allowed('s'), 1);
        // graphs with one outcome count once
        Check.same("outcomes, not graphs", Programs.gate("s00", "s00 s00").allowed('s'), 1);
    }

    private static void isAllowed() {
        Fencegate gate = Programs.gate(CROSS);
        Check.holds("first core", gate.isAllowed('t', 0, 1, 0));
        Check.holds("second core", gate.isAllowed('s', 1, 1, 1));
        Check.holds("third core", gate.isAllowed('s', 2, 0, 0));
        Check.same("not these", gate.isAllowed('t', 0, 0, 0), false);
        for (int no : new int[] {-1, 8, 9, Integer.MAX_VALUE, Integer.MIN_VALUE}) {
            Check.same("no number", gate.isAllowed('t', 0, no, 0), false);
            Check.same("no number", gate.isAllowed('t', 0, 1, no), false);
        }
        Fencegate strict = Programs.gate("s00 s11", "l01 l10");
        strict.setFirst(0, 1);
        Check.same("both numbers of one outcome", strict.isAllowed('t', 1, 0, 1), true);
        for (int core : NO_THREE) {
            Check.fails("no core", INDEX, () -> gate.isAllowed('s', core, 0, 0));
            Check.fails("no core counts before too much", INDEX, () -> tooMuch().isAllowed('s', core, 0, 0));
        }
    }

    private static Fencegate tooMuch() {
        return Programs.gate("l00 l00 l00", "l00 l00");
    }

    private static void isSame() {
        for (String[] program : new String[][] {CROSS, MESSAGE, {"i00 x10 w", "s00 w s10", "l00"}, {}}) {
            Fencegate gate = Programs.gate(program);
            for (char kind : KINDS) {
                Check.holds("isSame", gate.isSame(kind));
            }
        }
        Check.holds("too much for graphs", tooMuch().isSame('s'));
        Check.holds("too many states", Programs.gate(FAR_TOO_MANY).isSame('p'));
        // too many states, and not too much for graphs
        Fencegate wide = Programs.gate("s00 s11 k02 w k02", "s10 w k13 k04 k02", "k04 k13 s00 w k02");
        Check.fails("too many states", UNSUPPORTED, () -> wide.states('p'));
        Check.holds("few graphs", wide.graphs() > 0);
        Check.holds("the same all the same", wide.isSame('p'));
    }

    // ---- promises 26 to 32

    private static void races() {
        Fencegate gate = Programs.gate(CROSS);
        Check.same("races", gate.races(), 2);
        Check.same("a race", gate.raceAt(0) * 10000 + gate.raceAt(1), 112 * 10000 + 211);
        for (int no : new int[] {-1, 2, Integer.MAX_VALUE, Integer.MIN_VALUE}) {
            Check.fails("no such race", INDEX, () -> gate.raceAt(no));
        }
        Check.same("loads do not race", Programs.gate("l00", "l00").races(), 0);
        Check.same("stores do", Programs.gate("s00", "s00").races(), 1);
        Check.same("other cells do not", Programs.gate("s00", "s10 l02").races(), 0);
        Check.same("swaps and increases do not", Programs.gate("s00", "x00 i00").races(), 0);
        Fencegate order = Programs.gate("s00 l00", "l00 s00", "s00");
        int[] due = {10, 11, 20, 111, 120, 1020, 1120};
        Check.same("races of three cores", order.races(), due.length);
        for (int i = 0; i < due.length; i++) {
            Check.same("race " + i, order.raceAt(i), due[i]);
        }
        Fencegate guarded = Programs.gate("k01 s00 k11 s11", "l01 j05 l10 j15 f");
        Check.same("a load behind a jump is no race if it comes too late", guarded.races(), 1);
    }

    private static void fences() {
        Fencegate gate = Programs.gate(CROSS);
        Check.same("fences t", gate.fences('t'), 2);
        Check.same("their places", gate.fenceAt('t', 0) * 100 + gate.fenceAt('t', 1), 212);
        Check.same("fences s", gate.fences('s'), 0);
        for (int no : new int[] {-1, 2, Integer.MAX_VALUE, Integer.MIN_VALUE}) {
            Check.fails("no such fence", INDEX, () -> gate.fenceAt('t', no));
        }
        Check.fails("no fence is needed", INDEX, () -> gate.fenceAt('s', 0));
        Fencegate message = Programs.gate(MESSAGE);
        Check.same("fences of a message", message.fences('p') * 100 + message.fenceAt('p', 0), 102);
        Check.same("none in order", message.fences('t'), 0);
        Fencegate three = Programs.gate("k01 s00 l11", "k01 s10 l12", "k01 s20 l10");
        Check.fails("two are not enough", UNSUPPORTED, () -> three.fences('t'));
        Check.fails("two are not enough", UNSUPPORTED, () -> three.fenceAt('t', 0));
        Check.fails("two are not enough, whatever the index", UNSUPPORTED, () -> three.fenceAt('t', -5));
        Check.same("none in the kind s", three.fences('s'), 0);
        Fencegate lowest = Programs.gate("k01 s00 k05 l11", "k01 s10 f l10");
        Check.same("the lowest place", lowest.fences('t') * 100 + lowest.fenceAt('t', 0), 102);
        Check.same("a fence changes no program", lowest.outcomes('t') - lowest.outcomes('s'), 1);
    }

    private static void sums() {
        Fencegate gate = Programs.gate(CROSS);
        Check.same("all steps", gate.allSteps('s'), 18L);
        Check.same("mean length", gate.meanLength('s'), 6.0);
        Check.same("strict share", gate.strictShare('t'), 0.75f);
        Check.same("strict share s", gate.strictShare('s'), 1.0f);
        Fencegate jump = Programs.gate("l10 j13 k05", "k01 s00");
        Check.same("all steps of unlike runs", jump.allSteps('s'), 9L);
        Check.same("their mean", jump.meanLength('s'), 4.5);
        Check.same("a mean with a fraction", Programs.gate("l10 j13 f", "k01 s00", "k02 s00").meanLength('s'), 40.0 / 6.0);
        Fencegate thirds = Programs.gate("k01 s00 l01 l11", "k01 s10 l10");
        Check.same("a share with a fraction", thirds.strictShare('t'), 4.0f / 6.0f);
        Fencegate single = Programs.gate("k07 s00");
        Check.same("all steps of one outcome", single.allSteps('s') * 10 + single.allSteps('t'), 23L);
        Check.same("the mean of one", single.meanLength('s') * 10 + single.meanLength('p'), 23.0);
        Check.same("the share of one", single.strictShare('p'), 1.0f);
        Fencegate none = Programs.gate("s00 l01 j05 k15", "s10 l00 j05 k15");
        none.setFirst(0, 1);
        none.setFirst(1, 1);
        Check.same("three of four are strict", none.strictShare('t'), 0.75f);
        Check.same("nothing", new Fencegate().allSteps('t'), 0L);
        Check.same("the mean of nothing", new Fencegate().meanLength('t'), 0.0);
        Check.same("the share of nothing", new Fencegate().strictShare('p'), 1.0f);
    }

    // ---- all of them

    /** What has been found for a program must not be answered for the next one. */
    private static void programsAreForgotten() {
        Fencegate gate = Programs.gate(CROSS);
        int sum = gate.states('p') + gate.outcomes('t') + gate.graphs() + gate.races() + gate.fences('t') + gate.allowed('t');
        Check.holds("found", sum > 0);
        gate.clear(1);
        Check.same("states", gate.states('p'), 6);
        Check.same("outcomes", gate.outcomes('t'), 1);
        Check.same("graphs", gate.graphs(), 1);
        Check.same("races", gate.races(), 0);
        Check.same("fences", gate.fences('t'), 0);
        Check.same("allowed", gate.allowed('t'), 1);
        gate.setFirst(1, 4);
        Check.same("outcome", gate.outcomeAt('p', 0, 1), 4);
        Check.same("allowed", gate.isAllowed('p', 0, 1, 4), true);
        gate.add(1, 's', 1, 0, 0);
        Check.same("outcomes", gate.outcomes('t'), 2);
        Check.same("allowed", gate.allowed('t'), 2);
        Check.same("races", gate.races(), 1);

        // programs of all sizes, one behind the other on one object, must answer as on a new one each
        String[][] programs = {
            {"s00 s00 s00 l00 l00", "s00 s00 s00 l00 l00", "s00"}, {"k01 s00 k11 s11", "l01 j05 l10"}, CROSS, MESSAGE,
            {"f s00", "s00 f s00", "l00"}, {"f", "s00", "f"}, {"s00", "f", "f"}, {"l00 s00 l10 s01", "l00 s10", "k01 s00"},
            FAR_TOO_MANY, {"i00 x10", "x00 i10"}, {}, {"l00 l00 l00", "l00 l00"}, {"l00 l11 j15 s20 l02", "k01 s00 s10"},
            {"k01 s00 l11", "k01 s10 l12", "k01 s20 l10"}, {"k01 s00 k05 l11", "k01 s10 f l10"}, {"s00 s00", "s00"}, CROSS, {},
        };
        Fencegate used = new Fencegate();
        for (String[] program : programs) {
            Programs.fill(used, program);
            Check.same("answers for " + String.join(" | ", program), answersOf(used), answersOf(Programs.gate(program)));
            Check.same("the same answers again", answersOf(used), answersOf(used));
        }
    }

    private static String answersOf(Fencegate gate) {
        StringBuilder text = new StringBuilder();
        text.append(Check.of(gate::graphs)).append(' ').append(Check.of(gate::races)).append(" races");
        for (int i = 0; Check.of(gate::races) instanceof Integer size && i < size; i++) {
            text.append(' ').append(gate.raceAt(i));
        }
        for (char kind : KINDS) {
            text.append('\n').append(kind).append(gate.isSame(kind));
            List<Check.Call> calls = List.of(() -> gate.states(kind), () -> gate.allSteps(kind),
                    () -> gate.strictShare(kind), () -> gate.meanLength(kind), () -> gate.fences(kind), () -> gate.fenceAt(kind, 0),
                    () -> gate.fenceAt(kind, 1), () -> gate.broken(kind, 'c'), () -> gate.broken(kind, 'a'),
                    () -> gate.broken(kind, 'o'), () -> gate.allowed(kind), () -> gate.isAllowed(kind, 1, 1, 0));
            calls.forEach(it -> text.append(' ').append(Check.of(it)));
            for (int i = 0; Check.of(() -> gate.outcomes(kind)) instanceof Integer size && i < size; i++) {
                text.append(' ').append(gate.shortest(kind, i)).append(gate.isStrict(kind, i));
                for (int what = 0; what < 9; what++) {
                    text.append(gate.outcomeAt(kind, i, what));
                }
            }
        }
        return text.toString();
    }
}
