import java.util.Arrays;
import java.util.NoSuchElementException;

/** A machine of three cores whose stores wait, all outcomes of its programs, and the graphs that tell the same. */
public final class Fencegate {
    private static final int CORES = 3;
    private static final int CELLS = 3;
    private static final int PLACES = 5;
    private static final int STORES = 3;
    private static final int NUMBERS = 8;
    private static final int INSTRUCTIONS = CORES * PLACES;
    /** What an outcome tells: two registers of each core, and the cells. */
    private static final int WHATS = 9;
    /** A state is a word for each core, and one for all cells. */
    private static final int WORDS = CORES + 1;
    private static final int CELL_WORD = CORES;
    /** What a core can do in a state: its instruction, or a store of its queue. */
    private static final int MOVES = 1 + STORES;
    private static final int STATES = 4000;
    private static final int READERS = 4;
    private static final int WRITERS = 5;

    private static final int NONE = -1;
    private static final int STRICT = 0;
    private static final int QUEUED = 1;
    private static final int LOOSE = 2;
    private static final int KINDS = 3;

    private final Program program;
    private final Mover mover;
    private final int[] now;
    private final int[] tried;
    private int kindNow;
    private final Search search;
    private final Runs[] found;
    private final Meetings meetings;
    private final Graphs drawn;
    private final FenceSearch fenceSearch;

    public Fencegate() {
        program = new Program();
        mover = new Mover(program);
        now = new int[WORDS];
        tried = new int[WORDS];
        kindNow = STRICT;
        search = new Search(program, mover);
        found = new Runs[KINDS];
        for (int kind = 0; kind < KINDS; kind++) {
            found[kind] = new Runs(STATES);
        }
        meetings = new Meetings();
        drawn = new Graphs(program);
        fenceSearch = new FenceSearch(program, search);
    }

    // ---- programs

    public int add(int core, char letter, int a, int b, int c)
            throws IndexOutOfBoundsException, IllegalArgumentException, IllegalStateException {
        checkCore(core);
        if (!program.allows(core, letter, a, b, c)) {
            throw new IllegalArgumentException("no such letter, or a number out of range");
        }
        if (!program.hasRoom(core, letter)) {
            throw new IllegalStateException("no room for this instruction");
        }
        int place = program.append(core, letter, a, b, c);
        programChanged();
        return place;
    }

    public int clear(int core) throws IndexOutOfBoundsException {
        checkCore(core);
        int before = program.count[core];
        program.count[core] = 0;
        programChanged();
        return before;
    }

    public int setFirst(int cell, int number) throws IndexOutOfBoundsException, IllegalArgumentException {
        checkCell(cell);
        if (number < 0 || number >= NUMBERS) {
            throw new IllegalArgumentException("no such number");
        }
        int before = program.first[cell];
        program.first[cell] = number;
        programChanged();
        return before;
    }

    // ---- the machine, step by step

    public char setKind(char kind) throws IllegalArgumentException {
        int index = checkedKind(kind);
        int before = kindNow;
        kindNow = index;
        program.fillFirstState(now);
        return letterOf(before);
    }

    public boolean step(int core) throws IndexOutOfBoundsException, NoSuchElementException {
        checkCore(core);
        if (Word.placeOf(now[core]) >= program.count[core]) {
            throw new NoSuchElementException("the core has ended");
        }
        return mover.instruct(now, core, kindNow, 0);
    }

    public boolean drain(int core, int index) throws IndexOutOfBoundsException, NoSuchElementException {
        checkCore(core);
        checkStore(core, index);
        return mover.release(now, core, index, kindNow);
    }

    public int place(int core) throws IndexOutOfBoundsException {
        checkCore(core);
        return Word.placeOf(now[core]);
    }

    public int register(int core, int register) throws IndexOutOfBoundsException {
        checkCore(core);
        if (register < 0 || register > 1) {
            throw new IndexOutOfBoundsException("no such register");
        }
        return Word.registerOf(now[core], register);
    }

    public int cell(int cell) throws IndexOutOfBoundsException {
        checkCell(cell);
        return Word.cellOf(now[CELL_WORD], cell);
    }

    public int queue(int core) throws IndexOutOfBoundsException {
        checkCore(core);
        return Word.lengthOf(now[core]);
    }

    public int storeAt(int core, int index) throws IndexOutOfBoundsException, NoSuchElementException {
        checkCore(core);
        checkStore(core, index);
        int store = Word.storeOf(now[core], index);
        int mark = Word.isMarked(store) ? 100 : 0;
        return mark + 10 * Word.targetOf(store) + Word.numberOf(store);
    }

    public int choices() {
        int number = 0;
        for (int core = 0; core < CORES; core++) {
            for (int move = 0; move < MOVES; move++) {
                System.arraycopy(now, 0, tried, 0, WORDS);
                if (mover.moves(tried, core, move, kindNow)) {
                    number++;
                }
            }
        }
        return number;
    }

    public int play(char kind, int index)
            throws IllegalArgumentException, UnsupportedOperationException, IndexOutOfBoundsException {
        Runs runs = runsTo(kind, index);
        kindNow = kindIndex(kind);
        program.fillFirstState(now);
        int length = runs.lengthTo(index);
        for (int i = 0; i < length; i++) {
            int link = runs.linkAt(index, i);
            mover.moves(now, Runs.coreOf(link), Runs.moveOf(link), kindNow);
        }
        return length;
    }

    // ---- outcomes

    public int states(char kind) throws IllegalArgumentException, UnsupportedOperationException {
        return runsOf(kind).states;
    }

    public int outcomes(char kind) throws IllegalArgumentException, UnsupportedOperationException {
        return runsOf(kind).ends.size;
    }

    public int outcomeAt(char kind, int index, int what)
            throws IllegalArgumentException, UnsupportedOperationException, IndexOutOfBoundsException {
        checkedKind(kind);
        if (what < 0 || what >= WHATS) {
            throw new IllegalArgumentException("no such number of an outcome");
        }
        return Outcomes.numberIn(runsTo(kind, index).ends.keyAt(index), what);
    }

    public int shortest(char kind, int index)
            throws IllegalArgumentException, UnsupportedOperationException, IndexOutOfBoundsException {
        return runsTo(kind, index).lengthTo(index);
    }

    public int stepAt(char kind, int index, int step)
            throws IllegalArgumentException, UnsupportedOperationException, IndexOutOfBoundsException {
        Runs runs = runsTo(kind, index);
        if (step < 0 || step >= runs.lengthTo(index)) {
            throw new IndexOutOfBoundsException("no such step");
        }
        int link = runs.linkAt(index, step);
        return 10 * Runs.coreOf(link) + Runs.moveOf(link);
    }

    public boolean isStrict(char kind, int index)
            throws IllegalArgumentException, UnsupportedOperationException, IndexOutOfBoundsException {
        int key = runsTo(kind, index).ends.keyAt(index);
        return runsOf('s').ends.holds(key);
    }

    // ---- graphs

    public int graphs() throws UnsupportedOperationException {
        return graphsNow().all;
    }

    public int broken(char kind, char rule) throws IllegalArgumentException, UnsupportedOperationException {
        int index = checkedKind(kind);
        if (rule != 'c' && rule != 'a' && rule != 'o') {
            throw new IllegalArgumentException("no such rule");
        }
        Graphs graphs = graphsNow();
        if (rule == 'c') {
            return graphs.looped;
        }
        return rule == 'a' ? graphs.parted : graphs.disordered[index];
    }

    public int allowed(char kind) throws IllegalArgumentException, UnsupportedOperationException {
        int index = checkedKind(kind);
        return graphsNow().shown[index].size;
    }

    public boolean isAllowed(char kind, int core, int first, int second)
            throws IllegalArgumentException, IndexOutOfBoundsException, UnsupportedOperationException {
        int index = checkedKind(kind);
        checkCore(core);
        Outcomes shown = graphsNow().shown[index];
        for (int i = 0; i < shown.size; i++) {
            int key = shown.keyAt(i);
            if (Outcomes.numberIn(key, 2 * core) == first && Outcomes.numberIn(key, 2 * core + 1) == second) {
                return true;
            }
        }
        return false;
    }

    public boolean isSame(char kind) throws IllegalArgumentException {
        int index = checkedKind(kind);
        if (!program.isSmall()) {
            return true;
        }
        Runs runs = explored(index);
        if (runs.tooMany) {
            return true;
        }
        return runs.ends.isLike(graphsNow().shown[index]);
    }

    // ---- races and fences

    public int races() throws UnsupportedOperationException {
        runsOf('s');
        return meetings.size;
    }

    public int raceAt(int index) throws UnsupportedOperationException, IndexOutOfBoundsException {
        runsOf('s');
        if (index < 0 || index >= meetings.size) {
            throw new IndexOutOfBoundsException("no such race");
        }
        return meetings.race[index];
    }

    public int fences(char kind) throws IllegalArgumentException, UnsupportedOperationException {
        int number = fewest(kind);
        if (number == NONE) {
            throw new UnsupportedOperationException("two fences are not enough");
        }
        return number;
    }

    public int fenceAt(char kind, int index)
            throws IllegalArgumentException, UnsupportedOperationException, IndexOutOfBoundsException {
        int number = fewest(kind);
        if (number == NONE) {
            throw new UnsupportedOperationException("two fences are not enough");
        }
        if (index < 0 || index >= number) {
            throw new IndexOutOfBoundsException("no such fence");
        }
        return fenceSearch.fenceOf(kindIndex(kind), index);
    }

    public long allSteps(char kind) throws IllegalArgumentException, UnsupportedOperationException {
        return runsOf(kind).lengthOfAll();
    }

    public float strictShare(char kind) throws IllegalArgumentException, UnsupportedOperationException {
        Outcomes ends = runsOf(kind).ends;
        int strict = ends.sharedWith(runsOf('s').ends);
        return ends.size == 0 ? 0.0f : (float) strict / (float) ends.size;
    }

    public double meanLength(char kind) throws IllegalArgumentException, UnsupportedOperationException {
        Runs runs = runsOf(kind);
        int number = runs.ends.size;
        return number == 0 ? 0.0 : (double) runs.lengthOfAll() / (double) number;
    }

    // ---- what the calls share

    private static int kindIndex(char kind) {
        return kind == 's' ? STRICT : kind == 't' ? QUEUED : kind == 'p' ? LOOSE : NONE;
    }

    private static char letterOf(int kind) {
        return kind == STRICT ? 's' : kind == QUEUED ? 't' : 'p';
    }

    private static int checkedKind(char kind) {
        int index = kindIndex(kind);
        if (index == NONE) {
            throw new IllegalArgumentException("no such kind");
        }
        return index;
    }

    private static void checkCore(int core) {
        if (core < 0 || core >= CORES) {
            throw new IndexOutOfBoundsException("no such core");
        }
    }

    private static void checkCell(int cell) {
        if (cell < 0 || cell >= CELLS) {
            throw new IndexOutOfBoundsException("no such cell");
        }
    }

    private void checkStore(int core, int index) {
        if (index < 0 || index >= Word.lengthOf(now[core])) {
            throw new NoSuchElementException("no such store");
        }
    }

    private void programChanged() {
        program.fillFirstState(now);
        for (int kind = 0; kind < KINDS; kind++) {
            found[kind].known = false;
        }
        drawn.known = false;
        fenceSearch.forget();
    }

    private Runs explored(int kind) {
        Runs runs = found[kind];
        if (!runs.known) {
            search.explore(kind, 0, runs);
            runs.known = true;
            if (kind == STRICT && !runs.tooMany) {
                meetings.collect(program, search);
            }
        }
        return runs;
    }

    private Runs runsOf(char kind) {
        Runs runs = explored(checkedKind(kind));
        if (runs.tooMany) {
            throw new UnsupportedOperationException("more than 4000 states");
        }
        return runs;
    }

    private Runs runsTo(char kind, int index) {
        Runs runs = runsOf(kind);
        if (index < 0 || index >= runs.ends.size) {
            throw new IndexOutOfBoundsException("no such outcome");
        }
        return runs;
    }

    private Graphs graphsNow() {
        if (!program.isSmall()) {
            throw new UnsupportedOperationException("too much for graphs");
        }
        if (!drawn.known) {
            drawn.draw();
            drawn.known = true;
        }
        return drawn;
    }

    private int fewest(char kind) {
        Outcomes shown = runsOf(kind).ends;
        Outcomes strict = runsOf('s').ends;
        int index = kindIndex(kind);
        if (!fenceSearch.known[index]) {
            fenceSearch.seek(index, shown, strict);
        }
        return fenceSearch.number[index];
    }

    /** The instructions of all cores, and the first numbers of the cells. */
    private static final class Program {
        final int[] letter = new int[INSTRUCTIONS];
        final int[] a = new int[INSTRUCTIONS];
        final int[] b = new int[INSTRUCTIONS];
        final int[] c = new int[INSTRUCTIONS];
        final int[] count = new int[CORES];
        final int[] first = new int[CELLS];

        boolean allows(int core, int letter, int a, int b, int c) {
            switch (letter) {
                case 'k':
                    return isBelow(a, 2) && isBelow(b, NUMBERS);
                case '+':
                    return isBelow(a, 2) && isBelow(b, 2) && isBelow(c, 2);
                case 's':
                    return isBelow(a, CELLS) && isBelow(b, 2);
                case 'l':
                case 'x':
                case 'i':
                    return isBelow(a, 2) && isBelow(b, CELLS);
                case 'j':
                    return isBelow(a, 2) && b > count[core] && b <= PLACES;
                default:
                    return letter == 'w' || letter == 'f';
            }
        }

        private static boolean isBelow(int number, int end) {
            return number >= 0 && number < end;
        }

        boolean hasRoom(int core, int letter) {
            return count[core] < PLACES && (letter != 's' || storesAhead(core, PLACES) < STORES);
        }

        int storesAhead(int core, int place) {
            int stores = 0;
            for (int i = 0; i < place && i < count[core]; i++) {
                if (letter[PLACES * core + i] == 's') {
                    stores++;
                }
            }
            return stores;
        }

        int append(int core, int newLetter, int newA, int newB, int newC) {
            int place = count[core];
            int at = PLACES * core + place;
            letter[at] = newLetter;
            a[at] = newA;
            b[at] = newB;
            c[at] = newC;
            count[core] = place + 1;
            return place;
        }

        void fillFirstState(int[] state) {
            int cells = 0;
            for (int cell = 0; cell < CELLS; cell++) {
                cells = Word.withCell(cells, cell, first[cell]);
            }
            Arrays.fill(state, 0);
            state[CELL_WORD] = cells;
        }

        /** Whether graphs of it are asked for: their number grows fast with what reads and what writes. */
        boolean isSmall() {
            int readers = 0;
            int writers = 0;
            for (int core = 0; core < CORES; core++) {
                for (int place = 0; place < count[core]; place++) {
                    int it = letter[PLACES * core + place];
                    readers += isReader(it) ? 1 : 0;
                    writers += isWriter(it) ? 1 : 0;
                }
            }
            return readers <= READERS && writers <= WRITERS;
        }

        static boolean isSwap(int letter) {
            return letter == 'x' || letter == 'i';
        }

        static boolean isReader(int letter) {
            return letter == 'l' || isSwap(letter);
        }

        static boolean isWriter(int letter) {
            return letter == 's' || isSwap(letter);
        }
    }

    /**
     * What the bits of a state's words mean. A core's word: the place (3 bits), two registers (3 each), the mark for
     * the next store (1), the length of the queue (2), and its stores (6 each: number, cell, mark), the first one
     * lowest; bits without a store are 0, so that equal states have equal words. The cells' word: 3 bits a cell.
     */
    private static final class Word {
        static final int REGISTERS = 3;
        static final int NEXT_MARK = 1 << 9;
        static final int LENGTH = 10;
        static final int QUEUE = 12;
        static final int STORE = 6;
        static final int MARK = 32;

        static int placeOf(int word) {
            return word & 7;
        }

        static int withPlace(int word, int place) {
            return word & ~7 | place & 7;
        }

        static int registerOf(int word, int register) {
            return word >> REGISTERS + 3 * register & 7;
        }

        static int withRegister(int word, int register, int number) {
            int shift = REGISTERS + 3 * register;
            return word & ~(7 << shift) | (number & 7) << shift;
        }

        static int cellOf(int cells, int cell) {
            return cells >> 3 * cell & 7;
        }

        static int withCell(int cells, int cell, int number) {
            int shift = 3 * cell;
            return cells & ~(7 << shift) | (number & 7) << shift;
        }

        static int lengthOf(int word) {
            return word >> LENGTH & 3;
        }

        static int storeOf(int word, int index) {
            return word >> QUEUE + STORE * index & 63;
        }

        static int numberOf(int store) {
            return store & 7;
        }

        static int targetOf(int store) {
            return store >> 3 & 3;
        }

        static boolean isMarked(int store) {
            return (store & MARK) != 0;
        }

        static int withStore(int word, int cell, int number) {
            int mark = (word & NEXT_MARK) != 0 ? MARK : 0;
            int store = mark | cell << 3 | number;
            int shift = QUEUE + STORE * (word >> LENGTH & 3);
            return (word & ~NEXT_MARK | store << shift) + (1 << LENGTH);
        }

        static int withoutStore(int word, int index) {
            int shift = QUEUE + STORE * index;
            int ahead = word & (1 << shift) - 1;
            int behind = word >> shift + STORE << shift;
            return (ahead | behind) - (1 << LENGTH);
        }

        /** What a load of a core has: its own latest store that waits hides the cell. */
        static int loaded(int word, int cells, int cell) {
            for (int i = (word >> LENGTH & 3) - 1; i >= 0; i--) {
                int store = word >> QUEUE + STORE * i;
                if ((store >> 3 & 3) == cell) {
                    return store & 7;
                }
            }
            return cells >> 3 * cell & 7;
        }
    }

    /** Does steps in a state. */
    private static final class Mover {
        private final Program program;

        Mover(Program program) {
            this.program = program;
        }

        /** Does what stepAt would tell by this move; a state in which it can't be done stays as it is. */
        boolean moves(int[] state, int core, int move, int kind) {
            return move == 0 ? instruct(state, core, kind, 0) : release(state, core, move - 1, kind);
        }

        /** Does a core's instruction; fenced has a bit for each instruction with a fence put ahead of it. */
        boolean instruct(int[] state, int core, int kind, int fenced) {
            int word = state[core];
            int place = Word.placeOf(word);
            if (place >= program.count[core]) {
                return false;
            }
            int at = PLACES * core + place;
            int letter = program.letter[at];
            boolean waits = letter == 'f' || Program.isSwap(letter) || (fenced >> at & 1) != 0;
            if (waits && Word.lengthOf(word) > 0) {
                return false;
            }
            int next = place + 1;
            if (letter == 'j' && Word.registerOf(word, program.a[at]) == 0) {
                next = Math.min(program.b[at], program.count[core]);
            } else if (Program.isReader(letter) || Program.isWriter(letter)) {
                word = withAccess(state, word, at, kind);
            } else {
                word = withReckoning(word, at);
            }
            state[core] = Word.withPlace(word, next);
            return true;
        }

        /** The core's word after a load, store, swap or increase, which is done in the cells' word, too. */
        private int withAccess(int[] state, int word, int at, int kind) {
            int cells = state[CELL_WORD];
            int a = program.a[at];
            int b = program.b[at];
            switch (program.letter[at]) {
                case 'l':
                    return Word.withRegister(word, a, Word.loaded(word, cells, b));
                case 's':
                    if (kind != STRICT) {
                        return Word.withStore(word, a, Word.registerOf(word, b));
                    }
                    state[CELL_WORD] = Word.withCell(cells, a, Word.registerOf(word, b));
                    return word;
                case 'x':
                    state[CELL_WORD] = Word.withCell(cells, b, Word.registerOf(word, a));
                    return Word.withRegister(word, a, Word.cellOf(cells, b));
                default:
                    state[CELL_WORD] = Word.withCell(cells, b, Word.cellOf(cells, b) + Word.registerOf(word, a));
                    return Word.withRegister(word, a, Word.cellOf(cells, b));
            }
        }

        /** The core's word after an instruction that has nothing to do with cells. */
        private int withReckoning(int word, int at) {
            int a = program.a[at];
            int b = program.b[at];
            switch (program.letter[at]) {
                case 'k':
                    return Word.withRegister(word, a, b);
                case '+':
                    return Word.withRegister(word, a, Word.registerOf(word, b) + Word.registerOf(word, program.c[at]));
                case 'w':
                    // the queue is looked at now: the mark stays for the next store even if the queue is drained first
                    return Word.lengthOf(word) > 0 ? word | Word.NEXT_MARK : word;
                default:
                    return word;
            }
        }

        /** Does a store of a core's queue. */
        boolean release(int[] state, int core, int index, int kind) {
            int word = state[core];
            if (index >= Word.lengthOf(word) || index > 0 && (kind != LOOSE || !mayOvertake(word, index))) {
                return false;
            }
            int store = Word.storeOf(word, index);
            state[CELL_WORD] = Word.withCell(state[CELL_WORD], Word.targetOf(store), Word.numberOf(store));
            state[core] = Word.withoutStore(word, index);
            return true;
        }

        private static boolean mayOvertake(int word, int index) {
            int own = Word.storeOf(word, index);
            if (Word.isMarked(own)) {
                return false;
            }
            for (int i = 0; i < index; i++) {
                int store = Word.storeOf(word, i);
                if (Word.targetOf(store) == Word.targetOf(own) || i > 0 && Word.isMarked(store)) {
                    return false;
                }
            }
            return true;
        }
    }

    /** Outcomes in their order, each with the state that ends the shortest run to it. */
    private static final class Outcomes {
        private int[] key = new int[64];
        private int[] end = new int[64];
        int size;

        /** Numbers of an outcome lie in its key with the first one highest, so that keys compare as outcomes do. */
        static int numberIn(int key, int what) {
            return key >> 3 * (WHATS - 1 - what) & 7;
        }

        static int withNumber(int key, int what, int number) {
            return key | (number & 7) << 3 * (WHATS - 1 - what);
        }

        int keyAt(int index) {
            return index >= 0 && index < size ? key[index] : NONE;
        }

        int endAt(int index) {
            return index >= 0 && index < size ? end[index] : 0;
        }

        /** How many keys are less than this one. */
        private int below(int wanted) {
            int low = 0;
            int high = size;
            // each round leaves half of them: 31 rounds are more than any number of them needs
            for (int round = 0; round < 31 && low < high; round++) {
                int middle = (low + high) / 2;
                if (key[middle] < wanted) {
                    low = middle + 1;
                } else {
                    high = middle;
                }
            }
            return low;
        }

        boolean holds(int wanted) {
            int index = below(wanted);
            return index < size && key[index] == wanted;
        }

        /** Keeps an outcome, if it is a new one: the first state that is found for it stays. */
        void keep(int newKey, int newEnd) {
            int index = below(newKey);
            if (index < size && key[index] == newKey) {
                return;
            }
            if (size >= key.length) {
                key = Arrays.copyOf(key, 2 * size);
                end = Arrays.copyOf(end, 2 * size);
            }
            System.arraycopy(key, index, key, index + 1, size - index);
            System.arraycopy(end, index, end, index + 1, size - index);
            key[index] = newKey;
            end[index] = newEnd;
            size++;
        }

        int sharedWith(Outcomes other) {
            int shared = 0;
            for (int i = 0; i < size; i++) {
                if (other.holds(key[i])) {
                    shared++;
                }
            }
            return shared;
        }

        boolean isLike(Outcomes other) {
            return size == other.size && sharedWith(other) == size;
        }
    }

    /** What a search of all runs has found. */
    private static final class Runs {
        /** More than any run can have: 15 instructions, and 9 stores that leave a queue. */
        private static final int LONGEST = 32;

        boolean known;
        boolean tooMany;
        int states;
        final Outcomes ends = new Outcomes();
        /** For each state, 16 times the one ahead of it, plus 4 times the core, plus the move that leads here. */
        private final int[] link;

        /** Links for this many states; without any, outcomes can be told, but no runs. */
        Runs(int links) {
            link = new int[Math.max(0, links)];
        }

        static int coreOf(int link) {
            return link >> 2 & 3;
        }

        static int moveOf(int link) {
            return link & 3;
        }

        void setLink(int state, int before, int core, int move) {
            if (state >= 0 && state < link.length) {
                link[state] = 16 * before + 4 * core + move;
            }
        }

        private int stateBefore(int state) {
            return state >= 0 && state < link.length ? link[state] >> 4 : 0;
        }

        int lengthTo(int outcome) {
            int length = 0;
            for (int at = ends.endAt(outcome); at > 0 && length < LONGEST; at = stateBefore(at)) {
                length++;
            }
            return length;
        }

        int linkAt(int outcome, int step) {
            int at = ends.endAt(outcome);
            for (int i = lengthTo(outcome) - 1; i > step; i--) {
                at = stateBefore(at);
            }
            return at >= 0 && at < link.length ? link[at] : 0;
        }

        long lengthOfAll() {
            long sum = 0;
            for (int i = 0; i < ends.size; i++) {
                sum += lengthTo(i);
            }
            return sum;
        }
    }

    /** Finds all states that can be reached, in the order of the shortest runs to them. */
    private static final class Search {
        private static final int TABLE = 8192;

        private final Program program;
        private final Mover mover;
        private final int[] words = new int[WORDS * STATES];
        /** The states' numbers plus 1, at the places that their words lead to. */
        private final int[] table = new int[TABLE];
        private final int[] from = new int[WORDS];
        private final int[] to = new int[WORDS];
        int count;

        Search(Program program, Mover mover) {
            this.program = program;
            this.mover = mover;
        }

        /**
         * Goes through the states in the order in which they are found. States with equally long runs are found in the
         * order of these runs, so the first run to a state, and to an outcome, is the one that comes first of all.
         */
        void explore(int kind, int fenced, Runs runs) {
            runs.ends.size = 0;
            Arrays.fill(table, 0);
            count = 0;
            program.fillFirstState(to);
            remember();
            for (int head = 0; head < count && count <= STATES; head++) {
                System.arraycopy(words, WORDS * head, from, 0, WORDS);
                System.arraycopy(from, 0, to, 0, WORDS);
                if (hasEnded()) {
                    runs.ends.keep(outcomeKey(), head);
                }
                for (int turn = 0; turn < CORES * MOVES; turn++) {
                    int core = turn / MOVES;
                    int move = turn % MOVES;
                    boolean done = move == 0 ? mover.instruct(to, core, kind, fenced)
                            : mover.release(to, core, move - 1, kind);
                    if (done) {
                        if (remember()) {
                            runs.setLink(count - 1, head, core, move);
                        }
                        to[core] = from[core];
                        to[CELL_WORD] = from[CELL_WORD];
                    }
                }
            }
            runs.states = count;
            runs.tooMany = count > STATES;
        }

        /** Keeps the state that has been gone to; tells whether it is a new one. One too many is counted, not kept. */
        private boolean remember() {
            int slot = slotOf(to);
            for (int tries = 0; tries < TABLE; tries++) {
                int entry = table[slot];
                if (entry == 0) {
                    if (count < STATES) {
                        System.arraycopy(to, 0, words, WORDS * count, WORDS);
                        table[slot] = count + 1;
                    }
                    count++;
                    return true;
                }
                if (isAt(entry - 1)) {
                    return false;
                }
                slot = slot + 1 & TABLE - 1;
            }
            return false;
        }

        private static int slotOf(int[] state) {
            int mixed = 0;
            for (int i = 0; i < WORDS; i++) {
                mixed = (mixed ^ state[i]) * 0x9E3779B1;
                mixed ^= mixed >>> 15;
            }
            return mixed & TABLE - 1;
        }

        private boolean isAt(int state) {
            for (int i = 0; i < WORDS; i++) {
                if (words[WORDS * state + i] != to[i]) {
                    return false;
                }
            }
            return true;
        }

        private boolean hasEnded() {
            for (int core = 0; core < CORES; core++) {
                if (Word.placeOf(from[core]) < program.count[core] || Word.lengthOf(from[core]) > 0) {
                    return false;
                }
            }
            return true;
        }

        private int outcomeKey() {
            int key = 0;
            for (int core = 0; core < CORES; core++) {
                key = Outcomes.withNumber(key, 2 * core, Word.registerOf(from[core], 0));
                key = Outcomes.withNumber(key, 2 * core + 1, Word.registerOf(from[core], 1));
            }
            for (int cell = 0; cell < CELLS; cell++) {
                key = Outcomes.withNumber(key, 2 * CORES + cell, Word.cellOf(from[CELL_WORD], cell));
            }
            return key;
        }

        /** At which place a core is in a state that the last search has found. */
        int placeIn(int state, int core) {
            return state >= 0 && state < STATES ? Word.placeOf(words[WORDS * state + core]) : 0;
        }
    }

    /** The races: places of two cores at which they can be at once, and that do not leave each other alone. */
    private static final class Meetings {
        final int[] race = new int[CORES * PLACES * PLACES];
        int size;
        /** Bit 8 * p + q of row 3 * c + d: core c can be at place p while core d is at place q. */
        private final long[] met = new long[CORES * CORES];

        void collect(Program program, Search search) {
            Arrays.fill(met, 0L);
            for (int state = 0; state < search.count; state++) {
                for (int low = 0; low < CORES; low++) {
                    for (int high = low + 1; high < CORES; high++) {
                        int bit = 8 * search.placeIn(state, low) + search.placeIn(state, high);
                        met[CORES * low + high] |= 1L << bit;
                    }
                }
            }
            size = 0;
            for (int at = 0; at < INSTRUCTIONS; at++) {
                for (int other = PLACES * (at / PLACES + 1); other < INSTRUCTIONS; other++) {
                    if (isRace(program, at, other) && size < race.length) {
                        race[size] = 1000 * (at / PLACES) + 100 * (at % PLACES) + 10 * (other / PLACES) + other % PLACES;
                        size++;
                    }
                }
            }
        }

        private boolean isRace(Program program, int at, int other) {
            int place = at % PLACES;
            int otherPlace = other % PLACES;
            if (place >= program.count[at / PLACES] || otherPlace >= program.count[other / PLACES]) {
                return false;
            }
            int cell = cellOf(program, at);
            boolean stores = program.letter[at] == 's' || program.letter[other] == 's';
            long together = met[CORES * (at / PLACES) + other / PLACES];
            return stores && cell != NONE && cell == cellOf(program, other)
                    && (together >> 8 * place + otherPlace & 1L) != 0L;
        }

        /** The cell of a load or store; swaps and increases make no race. */
        private static int cellOf(Program program, int at) {
            int letter = program.letter[at];
            return letter == 'l' ? program.b[at] : letter == 's' ? program.a[at] : NONE;
        }
    }

    /** Seeks the fewest fences. */
    private static final class FenceSearch {
        private static final int MOST = 2;

        private final Program program;
        private final Search search;
        private final Runs fencedRuns = new Runs(0);
        final boolean[] known = new boolean[KINDS];
        final int[] number = new int[KINDS];
        private final int[] fence = new int[MOST * KINDS];
        /** The instructions that a fence ahead of them can hold up, in their order. */
        private final int[] choice = new int[INSTRUCTIONS];

        FenceSearch(Program program, Search search) {
            this.program = program;
            this.search = search;
        }

        void forget() {
            for (int kind = 0; kind < KINDS; kind++) {
                known[kind] = false;
            }
        }

        int fenceOf(int kind, int index) {
            int at = fence[MOST * kind + index];
            return 10 * (at / PLACES) + at % PLACES;
        }

        /** Finds how many are needed, NONE if two are not enough, and where they are put. */
        void seek(int kind, Outcomes shown, Outcomes strict) {
            boolean found = shown.sharedWith(strict) == shown.size;
            int choices = found ? 0 : fillChoices();
            int needed = 0;
            for (int i = 0; i < choices && !found; i++) {
                found = isEnough(kind, choice[i], choice[i], strict);
                needed = 1;
            }
            for (int i = 0; i < choices && !found; i++) {
                for (int j = i + 1; j < choices && !found; j++) {
                    found = isEnough(kind, choice[i], choice[j], strict);
                    needed = 2;
                }
            }
            number[kind] = found ? needed : NONE;
            known[kind] = true;
        }

        /**
         * A fence that holds nothing up does no more than no fence, and fewer are tried first: so those with no store
         * ahead of them, and those ahead of what waits for the queue anyway, need not be tried.
         */
        private int fillChoices() {
            int choices = 0;
            for (int at = 0; at < INSTRUCTIONS; at++) {
                int core = at / PLACES;
                int place = at % PLACES;
                int letter = program.letter[at];
                boolean waits = letter == 'f' || Program.isSwap(letter);
                if (place < program.count[core] && !waits && program.storesAhead(core, place) > 0) {
                    choice[choices] = at;
                    choices++;
                }
            }
            return choices;
        }

        /** Tries fences ahead of these instructions, or of one, if they are the same; those tried last stay. */
        private boolean isEnough(int kind, int first, int second, Outcomes strict) {
            fence[MOST * kind] = first;
            fence[MOST * kind + 1] = second;
            search.explore(kind, 1 << first | 1 << second, fencedRuns);
            Outcomes ends = fencedRuns.ends;
            return !fencedRuns.tooMany && ends.sharedWith(strict) == ends.size;
        }
    }

    /** What the cores do, if what they read is told: their loads, stores, swaps and increases, core by core. */
    private static final class Things {
        int size;
        final int[] core = new int[INSTRUCTIONS];
        final int[] letter = new int[INSTRUCTIONS];
        final boolean[] reads = new boolean[INSTRUCTIONS];
        final boolean[] writes = new boolean[INSTRUCTIONS];
        final int[] cell = new int[INSTRUCTIONS];
        final int[] read = new int[INSTRUCTIONS];
        final int[] written = new int[INSTRUCTIONS];
        /** How many full fences, swaps and increases of the core are ahead of it. */
        final int[] full = new int[INSTRUCTIONS];
        /** The same, with fences of stores. */
        final int[] some = new int[INSTRUCTIONS];
        final int[] register = new int[2 * CORES];
        private int fullNow;
        private int someNow;
        private int readNow;

        /** Lets the cores do what they do if these numbers are read, one behind the other; returns how many are. */
        int perform(Program program, int[] numbers) {
            size = 0;
            readNow = 0;
            Arrays.fill(register, 0);
            for (int c = 0; c < CORES; c++) {
                fullNow = 0;
                someNow = 0;
                int place = 0;
                for (int i = 0; i < PLACES && place < program.count[c]; i++) {
                    int at = PLACES * c + place;
                    boolean jumps = program.letter[at] == 'j' && register[2 * c + program.a[at]] == 0;
                    doInstruction(program, c, at, numbers);
                    place = jumps ? program.b[at] : place + 1;
                }
            }
            return readNow;
        }

        private void doInstruction(Program program, int c, int at, int[] numbers) {
            int a = 2 * c + program.a[at];
            int b = program.b[at];
            switch (program.letter[at]) {
                case 'k':
                    register[a] = b;
                    break;
                case '+':
                    register[a] = register[2 * c + b] + register[2 * c + program.c[at]] & 7;
                    break;
                case 's':
                    note(c, 's', program.a[at], 0, register[2 * c + b]);
                    break;
                case 'l':
                    register[a] = nextNumber(numbers);
                    note(c, 'l', b, register[a], 0);
                    break;
                case 'x':
                case 'i':
                    int number = nextNumber(numbers);
                    boolean sums = program.letter[at] == 'i';
                    note(c, program.letter[at], b, number, sums ? number + register[a] & 7 : register[a]);
                    register[a] = number;
                    fullNow++;
                    someNow++;
                    break;
                case 'f':
                    fullNow++;
                    someNow++;
                    break;
                case 'w':
                    someNow++;
                    break;
                default:
                    break;
            }
        }

        private int nextNumber(int[] numbers) {
            int number = readNow < numbers.length ? numbers[readNow] : 0;
            readNow++;
            return number;
        }

        private void note(int itsCore, int itsLetter, int itsCell, int itsRead, int itsWritten) {
            if (size >= INSTRUCTIONS) {
                return;
            }
            core[size] = itsCore;
            letter[size] = itsLetter;
            reads[size] = Program.isReader(itsLetter);
            writes[size] = Program.isWriter(itsLetter);
            cell[size] = itsCell;
            read[size] = itsRead;
            written[size] = itsWritten;
            full[size] = fullNow;
            some[size] = someNow;
            size++;
        }

        boolean areNeighbours(int thing, int other) {
            return core[thing] == core[other] && cell[thing] == cell[other];
        }

        /** Whether the rule 'o' of a kind keeps the order of a thing and a later one of its core. */
        boolean isKept(int kind, int thing, int later) {
            if (core[thing] != core[later]) {
                return false;
            }
            if (kind == STRICT || letter[thing] != 's') {
                return true;
            }
            if (letter[later] == 'l') {
                return full[thing] != full[later];
            }
            return kind != LOOSE || letter[later] != 's' || some[thing] != some[later];
        }
    }

    /**
     * Counts all graphs, and finds those that the rules allow. The things of a cell have no cycle by the rule 'c' just
     * if they can stand on one line: the writers in the cell's order, each load behind the writer that it reads from and
     * ahead of the next, each swap or increase just behind what it reads from, and the things of a core in its order.
     * So graphs not broken by 'c' are made by giving spots on that line, and all others are but counted.
     */
    private static final class Graphs {
        private static final int SPOTS = WRITERS + 1;

        boolean known;
        int all;
        int looped;
        /** Stays 0: a swap not just behind what it reads from is in a cycle with what stands between, so 'c' has it. */
        int parted;
        final int[] disordered = new int[KINDS];
        final Outcomes[] shown = new Outcomes[KINDS];
        private final Program program;
        private final Things things = new Things();
        private final int[] numbers = new int[READERS];
        private final int[] writers = new int[CELLS];
        /** A writer's spot in the order of its cell, from 1 on; a load's: that of what it reads from, 0 the first number. */
        private final int[] spot = new int[INSTRUCTIONS];
        /** For each spot of each cell, the writer there, NONE for the first number. */
        private final int[] writerAt = new int[CELLS * SPOTS];
        /** What stands there. */
        private final int[] numberAt = new int[CELLS * SPOTS];
        /** For each kind, a row of the bits of what the order of the core keeps ahead of each thing. */
        private final int[] kept = new int[KINDS * INSTRUCTIONS];
        private final int[] ahead = new int[INSTRUCTIONS];
        private int unlooped;

        Graphs(Program program) {
            this.program = program;
            for (int kind = 0; kind < KINDS; kind++) {
                shown[kind] = new Outcomes();
            }
        }

        void draw() {
            all = 0;
            unlooped = 0;
            Arrays.fill(disordered, 0);
            Arrays.fill(numbers, 0);
            for (int kind = 0; kind < KINDS; kind++) {
                shown[kind].size = 0;
            }
            boolean goesOn = true;
            // 4 numbers of 8 values each: 4096 ways to read at most
            for (int way = 0; way < 4096 && goesOn; way++) {
                int reads = things.perform(program, numbers);
                countWriters();
                int graphs = countGraphs();
                all += graphs;
                if (graphs > 0) {
                    fillKept();
                    layFirstNumbers();
                    layWriter(this, 0);
                }
                goesOn = nextNumbers(reads);
            }
            looped = all - unlooped;
        }

        /** Goes to the next numbers that can be read; those behind the ones that have been read do not count. */
        private boolean nextNumbers(int reads) {
            for (int i = Math.min(reads, READERS) - 1; i >= 0; i--) {
                if (numbers[i] < NUMBERS - 1) {
                    numbers[i]++;
                    return true;
                }
                numbers[i] = 0;
            }
            return false;
        }

        private void countWriters() {
            Arrays.fill(writers, 0);
            for (int thing = 0; thing < things.size; thing++) {
                if (things.writes[thing]) {
                    writers[things.cell[thing]]++;
                }
            }
        }

        /** Each way to read, with each order of each cell, is a graph. */
        private int countGraphs() {
            int graphs = 1;
            for (int thing = 0; thing < things.size; thing++) {
                if (things.reads[thing]) {
                    graphs *= countSources(thing);
                }
            }
            for (int cell = 0; cell < CELLS; cell++) {
                for (int i = 2; i <= writers[cell]; i++) {
                    graphs *= i;
                }
            }
            return graphs;
        }

        private int countSources(int reader) {
            int cell = things.cell[reader];
            int sources = program.first[cell] == things.read[reader] ? 1 : 0;
            for (int thing = 0; thing < things.size; thing++) {
                boolean gives = thing != reader && things.cell[thing] == cell && things.writes[thing];
                if (gives && things.written[thing] == things.read[reader]) {
                    sources++;
                }
            }
            return sources;
        }

        private void fillKept() {
            for (int kind = 0; kind < KINDS; kind++) {
                for (int later = 0; later < things.size; later++) {
                    int bits = 0;
                    for (int thing = 0; thing < later; thing++) {
                        bits |= things.isKept(kind, thing, later) ? 1 << thing : 0;
                    }
                    kept[INSTRUCTIONS * kind + later] = bits;
                }
            }
        }

        private void layFirstNumbers() {
            Arrays.fill(writerAt, NONE);
            for (int cell = 0; cell < CELLS; cell++) {
                numberAt[SPOTS * cell] = program.first[cell];
            }
        }

        /** Gives spots to the writers from this thing on, in each way that keeps the order of their cores. */
        private static void layWriter(Graphs graphs, int thing) {
            Things things = graphs.things;
            if (thing >= things.size) {
                if (graphs.swapsFit()) {
                    layLoad(graphs, 0);
                }
                return;
            }
            if (!things.writes[thing]) {
                layWriter(graphs, thing + 1);
                return;
            }
            int row = SPOTS * things.cell[thing];
            int most = Math.min(graphs.writers[things.cell[thing]], WRITERS);
            for (int at = graphs.writersAhead(thing) + 1; at <= most; at++) {
                if (graphs.writerAt[row + at] == NONE) {
                    graphs.writerAt[row + at] = thing;
                    graphs.numberAt[row + at] = things.written[thing];
                    graphs.spot[thing] = at;
                    layWriter(graphs, thing + 1);
                    graphs.writerAt[row + at] = NONE;
                }
            }
        }

        /** Gives spots to the loads from this thing on, and then looks at the graph. */
        private static void layLoad(Graphs graphs, int thing) {
            Things things = graphs.things;
            if (thing >= things.size) {
                graphs.judge();
                return;
            }
            if (things.writes[thing]) {
                layLoad(graphs, thing + 1);
                return;
            }
            int row = SPOTS * things.cell[thing];
            int last = graphs.lastSpotFor(thing);
            for (int at = graphs.firstSpotFor(thing); at <= last; at++) {
                if (graphs.numberAt[row + at] == things.read[thing]) {
                    graphs.spot[thing] = at;
                    layLoad(graphs, thing + 1);
                }
            }
        }

        private int writersAhead(int thing) {
            int spotAhead = 0;
            for (int i = 0; i < thing; i++) {
                if (things.writes[i] && things.areNeighbours(i, thing)) {
                    spotAhead = Math.max(spotAhead, spot[i]);
                }
            }
            return spotAhead;
        }

        private int firstSpotFor(int load) {
            int first = 0;
            for (int i = 0; i < load; i++) {
                if (things.areNeighbours(i, load)) {
                    first = Math.max(first, spot[i]);
                }
            }
            return first;
        }

        private int lastSpotFor(int load) {
            int last = Math.min(writers[things.cell[load]], WRITERS);
            for (int i = load + 1; i < things.size; i++) {
                if (things.writes[i] && things.areNeighbours(i, load)) {
                    last = Math.min(last, spot[i] - 1);
                }
            }
            return last;
        }

        private boolean swapsFit() {
            for (int thing = 0; thing < things.size; thing++) {
                boolean isSwap = things.reads[thing] && things.writes[thing];
                if (isSwap && numberAt[SPOTS * things.cell[thing] + spot[thing] - 1] != things.read[thing]) {
                    return false;
                }
            }
            return true;
        }

        private void judge() {
            unlooped++;
            int key = outcomeKey();
            for (int kind = 0; kind < KINDS; kind++) {
                fillAhead(kind);
                if (hasCycle()) {
                    disordered[kind]++;
                } else {
                    shown[kind].keep(key, 0);
                }
            }
        }

        private int outcomeKey() {
            int key = 0;
            for (int i = 0; i < 2 * CORES; i++) {
                key = Outcomes.withNumber(key, i, things.register[i]);
            }
            for (int cell = 0; cell < CELLS; cell++) {
                key = Outcomes.withNumber(key, 2 * CORES + cell, numberAt[SPOTS * cell + writers[cell]]);
            }
            return key;
        }

        /**
         * What must be ahead of each thing. Of the order of a cell, the writer just ahead is enough, and of what is later
         * than a load, the next writer: the others follow through these. A first number is never behind anything.
         */
        private void fillAhead(int kind) {
            for (int thing = 0; thing < things.size; thing++) {
                int cell = things.cell[thing];
                int bits = kept[INSTRUCTIONS * kind + thing];
                if (things.writes[thing]) {
                    bits |= bitOf(writerAt[SPOTS * cell + spot[thing] - 1]) | loadsAt(cell, spot[thing] - 1);
                } else {
                    int source = writerAt[SPOTS * cell + spot[thing]];
                    boolean counts = source != NONE && (kind == STRICT || things.core[source] != things.core[thing]);
                    bits |= counts ? bitOf(source) : 0;
                }
                ahead[thing] = bits;
            }
        }

        private static int bitOf(int thing) {
            return thing == NONE ? 0 : 1 << thing;
        }

        private int loadsAt(int cell, int at) {
            int bits = 0;
            for (int thing = 0; thing < things.size; thing++) {
                if (!things.writes[thing] && things.cell[thing] == cell && spot[thing] == at) {
                    bits |= 1 << thing;
                }
            }
            return bits;
        }

        /** Takes things away that have none ahead of them, as long as there are some: what is left holds a cycle. */
        private boolean hasCycle() {
            int left = (1 << things.size) - 1;
            for (int round = 0; round < things.size && left != 0; round++) {
                for (int thing = 0; thing < things.size; thing++) {
                    if ((ahead[thing] & left) == 0) {
                        left &= ~(1 << thing);
                    }
                }
            }
            return left != 0;
        }
    }
}
