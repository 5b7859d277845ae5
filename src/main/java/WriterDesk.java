import java.util.Arrays;

/**
 * Machines that read a word and write another one: whether they are functions, whether two are the
 * same, whether one can be had that never guesses, and then the smallest such machine.
 */
public final class WriterDesk {
    public static final int NONE = -1;

    private static final int MACHINES = 6;
    private static final int STATES = 6;
    private static final int EDGES = 24;
    private static final int LETTERS = 3;
    private static final int PLACES = STATES * LETTERS;
    private static final int SUBSETS = 1 << STATES;
    private static final int STATE_PAIRS = STATES * STATES;
    private static final int SUBSET_PAIRS = SUBSETS * SUBSETS;
    private static final int MOST_TOLD_SIGNS = 3;
    private static final int MOST_LETTERS_READ = 10;
    private static final int MOST_WAYS_READ = 200;
    private static final int READ_SLOTS = 512;
    private static final int MOST_RESIDUALS = 3000;
    private static final int RESIDUAL_SLOTS = 8192;
    private static final int MOST_SMALL_STATES = 40;

    /** Signs that one long holds, four bits each. */
    private static final int CELL = 16;

    // The rooms below are the longest words that can come up, each rounded up.
    /** A told word has 3 signs; with what all that follows begins with (5 edges, a final word) 21. */
    private static final int EDGE_ROOM = 32;
    /** A first word, 10 edges and a final word have 36 signs. */
    private static final int READ_CELLS = 3;
    /** Residuals of steady functions have 6 * 6 * 3 signs, and 3 more before they are cut. */
    private static final int RESIDUAL_CELLS = 7;
    /** Such a residual with what follows alike (18 signs), and an edge (21 signs) behind it. */
    private static final int SMALL_ROOM = 160;
    /** Two rests of 126 signs at most, then up to 72 edges, then what follows alike. */
    private static final int REST_ROOM = 400;

    private static final int STEADY = 0;
    private static final int UNSTEADY = 1;
    private static final int TOO_MANY = 2;

    private final Machine[] machines = new Machine[MACHINES];
    private final Word result = new Word(SUBSET_PAIRS);
    private final Word shortWord = new Word(2 * STATE_PAIRS);
    private final Reading reading = new Reading();
    private final PairSearch pairs = new PairSearch();
    private final DomainSearch domains = new DomainSearch();
    private final ResidualSearch residuals = new ResidualSearch();
    private final Builder builder = new Builder();
    private SmallMachine made = new SmallMachine();
    private SmallMachine spare = new SmallMachine();

    public WriterDesk() {
        for (int m = 0; m < MACHINES; m++) {
            machines[m] = new Machine();
        }
    }

    public void machine(int m, int states) throws IndexOutOfBoundsException, IllegalArgumentException {
        Machine told = machineOf(m);
        if (states < 1 || states > STATES) {
            throw new IllegalArgumentException();
        }
        told.reset(states);
    }

    public int edge(int m, int from, int letter, int to, int n, int word)
            throws IndexOutOfBoundsException, IllegalArgumentException, UnsupportedOperationException {
        Machine told = machineOf(m);
        if (!told.hasState(from) || !told.hasState(to) || !isLetter(letter) || n < 0 || n > MOST_TOLD_SIGNS) {
            throw new IllegalArgumentException();
        }
        if (told.edges >= EDGES) {
            throw new UnsupportedOperationException();
        }
        int number = told.addEdge(from, letter, to);
        told.written[number].tell(n, word);
        return number;
    }

    public void last(int m, int state, int n, int word) throws IndexOutOfBoundsException, IllegalArgumentException {
        Machine told = machineOf(m);
        if (!told.hasState(state) || n < NONE || n > MOST_TOLD_SIGNS) {
            throw new IllegalArgumentException();
        }
        if (n == NONE) {
            told.takeClosing(state);
        } else {
            told.giveClosing(state);
            told.closings[state].tell(n, word);
        }
    }

    public void first(int m, int n, int word) throws IndexOutOfBoundsException, IllegalArgumentException {
        Machine told = machineOf(m);
        if (n < 0 || n > MOST_TOLD_SIGNS) {
            throw new IllegalArgumentException();
        }
        told.opening.tell(n, word);
    }

    public int useful(int m) throws IndexOutOfBoundsException {
        Machine asked = machineOf(m);
        asked.settle();
        return Integer.bitCount(asked.alive);
    }

    public int read(int m, int n, int word, int k)
            throws IndexOutOfBoundsException, IllegalArgumentException, UnsupportedOperationException {
        Machine asked = machineOf(m);
        if (n < 0 || n > MOST_LETTERS_READ || holdsNoLetter(n, word)) {
            throw new IllegalArgumentException();
        }
        asked.settle();
        int outputs = reading.outputsOf(asked, n, word);
        if (outputs == NONE) {
            throw new UnsupportedOperationException();
        }
        reading.tellOutput(k, result);
        return outputs;
    }

    public boolean isFunction(int m) throws IndexOutOfBoundsException {
        boolean function = hasOneOutputEach(machineOf(m));
        result.clear();
        if (!function) {
            pairs.tellWord(result);
        }
        return function;
    }

    public boolean isSame(int m, int other) throws IndexOutOfBoundsException, IllegalStateException {
        Machine one = machineOf(m);
        Machine two = machineOf(other);
        if (!hasOneOutputEach(one) || !hasOneOutputEach(two)) {
            throw new IllegalStateException();
        }
        result.clear();
        boolean otherDomains = domains.search(one, two);
        if (otherDomains) {
            domains.tellWord(result);
        }
        boolean otherOutputs = outputsDiffer(one, two);
        if (otherOutputs) {
            pairs.tellWord(shortWord);
            if (!otherDomains || shortWord.isBefore(result)) {
                result.copy(shortWord);
            }
        }
        return !otherDomains && !otherOutputs;
    }

    public boolean isSteady(int m)
            throws IndexOutOfBoundsException, IllegalStateException, UnsupportedOperationException {
        Machine asked = machineOf(m);
        if (!hasOneOutputEach(asked)) {
            throw new IllegalStateException();
        }
        int verdict = residuals.verdictOn(asked);
        if (verdict == TOO_MANY) {
            throw new UnsupportedOperationException();
        }
        return verdict == STEADY;
    }

    public int smallest(int m)
            throws IndexOutOfBoundsException, IllegalStateException, UnsupportedOperationException {
        Machine asked = machineOf(m);
        if (!hasOneOutputEach(asked)) {
            throw new IllegalStateException();
        }
        int verdict = residuals.verdictOn(asked);
        if (verdict == UNSTEADY) {
            throw new IllegalStateException();
        }
        if (verdict == TOO_MANY || !builder.build(asked, spare, pairs)) {
            throw new UnsupportedOperationException();
        }
        SmallMachine before = made;
        made = spare;
        spare = before;
        return made.states;
    }

    public int next(int state, int letter) throws IllegalStateException, IllegalArgumentException {
        if (made.states == 0) {
            throw new IllegalStateException();
        }
        if (!made.hasState(state) || !isLetter(letter)) {
            throw new IllegalArgumentException();
        }
        int place = state * LETTERS + letter;
        result.copy(made.written[place]);
        return made.targets[place];
    }

    public boolean ends(int state) throws IllegalStateException, IllegalArgumentException {
        if (made.states == 0) {
            throw new IllegalStateException();
        }
        if (state != NONE && !made.hasState(state)) {
            throw new IllegalArgumentException();
        }
        if (state == NONE) {
            result.copy(made.opening);
            return true;
        }
        result.copy(made.closings[state]);
        return made.closing[state];
    }

    public int count(int what) {
        switch (what) {
            case 0:
                return result.length;
            case 1:
                return edgesTogether();
            case 2:
                return made.states;
            default:
                return NONE;
        }
    }

    public int sign(int i) throws IndexOutOfBoundsException {
        if (i < 0 || i >= result.length) {
            throw new IndexOutOfBoundsException();
        }
        return result.at(i);
    }

    private Machine machineOf(int m) {
        if (m < 0 || m >= MACHINES) {
            throw new IndexOutOfBoundsException();
        }
        return machines[m];
    }

    private int edgesTogether() {
        int sum = 0;
        for (int m = 0; m < MACHINES; m++) {
            sum += machines[m].edges;
        }
        return sum;
    }

    private boolean hasOneOutputEach(Machine asked) {
        asked.settle();
        return !outputsDiffer(asked, asked);
    }

    /** Whether some word has one output of one machine and a different one of the other. */
    private boolean outputsDiffer(Machine one, Machine two) {
        pairs.begin(one, two);
        if (one.alive != 0 && two.alive != 0) {
            pairs.start(0, 0, one.opening, two.opening);
        }
        return pairs.search();
    }

    private static boolean isLetter(int letter) {
        return letter >= 0 && letter < LETTERS;
    }

    private static boolean holdsNoLetter(int n, int word) {
        for (int i = 0; i < n; i++) {
            if (!isLetter(letterOf(word, i))) {
                return true;
            }
        }
        return false;
    }

    private static int letterOf(int word, int i) {
        return word >>> 2 * i & 3;
    }

    private static boolean has(int set, int state) {
        return (set >>> state & 1) != 0;
    }

    /** A word in a room of its own; cells behind its end are always 0. */
    private static final class Word {
        final long[] cells;
        int length;

        Word(int room) {
            cells = new long[room / CELL + 1];
            length = 0;
        }

        void clear() {
            for (int i = 0; i * CELL < length && i < cells.length; i++) {
                cells[i] = 0L;
            }
            length = 0;
        }

        void tell(int n, int bits) {
            clear();
            for (int i = 0; i < n && i < MOST_TOLD_SIGNS; i++) {
                cells[0] |= (long) (bits >>> 3 * i & 7) << 4 * i;
                length++;
            }
        }

        int at(int i) {
            return i < 0 || i >= length ? NONE : (int) (cells[i / CELL] >>> 4 * (i % CELL)) & 7;
        }

        /** So many zeros, for put() to write over. */
        void stretch(int n) {
            clear();
            length = Math.min(n, cells.length * CELL);
        }

        void put(int i, int sign) {
            if (i >= 0 && i < length) {
                int shift = 4 * (i % CELL);
                cells[i / CELL] = cells[i / CELL] & ~(15L << shift) | (long) sign << shift;
            }
        }

        /** A word that is longer than this room is left out, as in append(). */
        void copy(Word other) {
            int signs = other.length > cells.length * CELL ? 0 : other.length;
            for (int i = 0; (i * CELL < length || i * CELL < signs) && i < cells.length; i++) {
                cells[i] = i * CELL < signs ? other.cells[i] : 0L;
            }
            length = signs;
        }

        /** A word of so many signs that store() put in a row. */
        void load(long[] row, int from, int width, int signs) {
            for (int i = 0; i < cells.length; i++) {
                cells[i] = i < width ? row[from + i] : 0L;
            }
            length = signs;
        }

        void store(long[] row, int from, int width) {
            for (int i = 0; i < width; i++) {
                row[from + i] = i < cells.length ? cells[i] : 0L;
            }
        }

        /** What does not fit is left out; the rooms are such that all fits. */
        void append(Word other) {
            if (length + other.length > cells.length * CELL) {
                return;
            }
            int base = length / CELL;
            int shift = 4 * (length % CELL);
            for (int i = 0; i * CELL < other.length; i++) {
                long cell = other.cells[i];
                cells[base + i] |= cell << shift;
                if (shift > 0 && base + i + 1 < cells.length) {
                    cells[base + i + 1] |= cell >>> 64 - shift;
                }
            }
            length += other.length;
        }

        /** Without its first signs. */
        void drop(int signs) {
            if (signs <= 0 || signs > length) {
                return;
            }
            int skip = signs / CELL;
            int shift = 4 * (signs % CELL);
            for (int i = 0; i * CELL < length; i++) {
                long low = i + skip < cells.length ? cells[i + skip] : 0L;
                long high = i + skip + 1 < cells.length ? cells[i + skip + 1] : 0L;
                cells[i] = shift == 0 ? low : low >>> shift | high << 64 - shift;
            }
            length -= signs;
        }

        /** Only its first signs. */
        void keepFirst(int signs) {
            if (signs < 0 || signs >= length) {
                return;
            }
            int border = signs / CELL;
            cells[border] &= (1L << 4 * (signs % CELL)) - 1L;
            for (int i = border + 1; i * CELL < length; i++) {
                cells[i] = 0L;
            }
            length = signs;
        }

        /** How many signs both begin with alike. */
        int alikeWith(Word other) {
            for (int i = 0; i < length && i < other.length; i++) {
                long differ = (cells[i / CELL] ^ other.cells[i / CELL]) >>> 4 * (i % CELL);
                if ((differ & 15L) != 0L) {
                    return i;
                }
            }
            return length < other.length ? length : other.length;
        }

        boolean isLike(Word other) {
            if (length != other.length) {
                return false;
            }
            for (int i = 0; i * CELL < length; i++) {
                if (cells[i] != other.cells[i]) {
                    return false;
                }
            }
            return true;
        }

        /** Shorter ones first, then by the sign where they differ first. */
        boolean isBefore(Word other) {
            if (length != other.length) {
                return length < other.length;
            }
            int alike = alikeWith(other);
            return at(alike) < other.at(alike);
        }
    }

    /** A set of rows of longs, in the order in which they came. */
    private static final class Rows {
        final long[] cells;
        final int width;
        final int most;
        final int[] slots;
        int size;

        /** So many slots: a power of two, and twice as many as rows, so that looking for one ends soon. */
        Rows(int most, int width, int slotCount) {
            this.most = most;
            this.width = width;
            cells = new long[most * width];
            slots = new int[slotCount];
            size = 0;
        }

        void clear() {
            Arrays.fill(slots, 0);
            size = 0;
        }

        /** False when the row is a new one and there is no place left for it. */
        boolean add(long[] row) {
            int slot = slotOf(row);
            for (int tries = 0; tries < slots.length; tries++) {
                int number = slots[slot] - 1;
                if (number < 0) {
                    return addNew(row, slot);
                }
                if (isRow(number, row)) {
                    return true;
                }
                slot = slot + 1 & slots.length - 1;
            }
            return false;
        }

        private boolean addNew(long[] row, int slot) {
            if (size >= most) {
                return false;
            }
            System.arraycopy(row, 0, cells, size * width, width);
            size++;
            slots[slot] = size;
            return true;
        }

        private boolean isRow(int number, long[] row) {
            int base = number * width;
            for (int i = 0; i < width; i++) {
                if (cells[base + i] != row[i]) {
                    return false;
                }
            }
            return true;
        }

        private int slotOf(long[] row) {
            long mixed = 0L;
            for (int i = 0; i < width; i++) {
                mixed = (mixed ^ row[i]) * 0x9E3779B97F4A7C15L;
                mixed ^= mixed >>> 32;
            }
            return (int) mixed & slots.length - 1;
        }
    }

    /** A machine as it was told, and what settle() finds out about it. */
    private static final class Machine {
        int states = 1;
        int edges = 0;
        final int[] from = new int[EDGES];
        final int[] letter = new int[EDGES];
        final int[] to = new int[EDGES];
        final Word[] written = new Word[EDGES];
        final Word opening = new Word(EDGE_ROOM);
        final Word[] closings = new Word[STATES];
        /** The set of states with a final word. */
        int closing = 0;
        boolean settled = false;
        /** The set of useful states. */
        int alive = 0;
        /** Different edges between useful states, sorted by state and letter, and where each such place begins. */
        final int[] sorted = new int[EDGES];
        final int[] begin = new int[PLACES + 1];

        Machine() {
            for (int e = 0; e < EDGES; e++) {
                written[e] = new Word(EDGE_ROOM);
            }
            for (int q = 0; q < STATES; q++) {
                closings[q] = new Word(EDGE_ROOM);
            }
        }

        void reset(int newStates) {
            states = newStates;
            edges = 0;
            closing = 0;
            opening.clear();
            settled = false;
        }

        boolean hasState(int state) {
            return state >= 0 && state < states;
        }

        /** The edge's number; what it writes is for the caller to tell. */
        int addEdge(int fromState, int byLetter, int toState) {
            int number = edges;
            from[number] = fromState;
            letter[number] = byLetter;
            to[number] = toState;
            edges++;
            settled = false;
            return number;
        }

        void giveClosing(int state) {
            closing |= 1 << state;
            settled = false;
        }

        void takeClosing(int state) {
            closing &= ~(1 << state);
            settled = false;
        }

        void settle() {
            if (settled) {
                return;
            }
            alive = comeToStates() & leadingOnStates();
            int size = 0;
            for (int place = 0; place < PLACES; place++) {
                begin[place] = size;
                for (int e = 0; e < edges; e++) {
                    if (from[e] * LETTERS + letter[e] == place && isAliveEdge(e) && !isListed(e, begin[place], size)) {
                        sorted[size] = e;
                        size++;
                    }
                }
            }
            begin[PLACES] = size;
            settled = true;
        }

        private int comeToStates() {
            int reached = 1;
            for (int round = 0; round < states; round++) {
                for (int e = 0; e < edges; e++) {
                    if (has(reached, from[e])) {
                        reached |= 1 << to[e];
                    }
                }
            }
            return reached;
        }

        private int leadingOnStates() {
            int leading = closing;
            for (int round = 0; round < states; round++) {
                for (int e = 0; e < edges; e++) {
                    if (has(leading, to[e])) {
                        leading |= 1 << from[e];
                    }
                }
            }
            return leading;
        }

        private boolean isAliveEdge(int e) {
            return has(alive, from[e]) && has(alive, to[e]);
        }

        /** An edge told twice adds no way of reading, so searches need it once. */
        private boolean isListed(int e, int first, int end) {
            for (int i = first; i < end; i++) {
                if (to[sorted[i]] == to[e] && written[sorted[i]].isLike(written[e])) {
                    return true;
                }
            }
            return false;
        }

        boolean isClosing(int state) {
            return ((closing & alive) >>> state & 1) != 0;
        }

        boolean accepts(int set) {
            return (set & closing & alive) != 0;
        }

        /** The set of states that a set goes to by a letter. */
        int after(int set, int byLetter) {
            int reached = 0;
            for (int q = 0; q < states; q++) {
                if (has(set, q)) {
                    int place = q * LETTERS + byLetter;
                    for (int i = begin[place]; i < begin[place + 1]; i++) {
                        reached |= 1 << to[sorted[i]];
                    }
                }
            }
            return reached;
        }

        /** How long the longest word is that counts, 1 at least. */
        int longestWord() {
            int longest = Math.max(1, opening.length);
            for (int i = 0; i < begin[PLACES]; i++) {
                longest = Math.max(longest, written[sorted[i]].length);
            }
            for (int q = 0; q < states; q++) {
                if (isClosing(q)) {
                    longest = Math.max(longest, closings[q].length);
                }
            }
            return longest;
        }
    }

    /** All outputs of one word. */
    private static final class Reading {
        private Rows now = new Rows(MOST_WAYS_READ, 1 + READ_CELLS, READ_SLOTS);
        private Rows then = new Rows(MOST_WAYS_READ, 1 + READ_CELLS, READ_SLOTS);
        private final long[] row = new long[1 + READ_CELLS];
        private final Word base = new Word(READ_CELLS * CELL);
        private final Word word = new Word(READ_CELLS * CELL);

        /** How many there are; NONE when there are too many ways of reading. */
        int outputsOf(Machine machine, int n, int letters) {
            now.clear();
            if (machine.alive != 0) {
                word.copy(machine.opening);
                addWay(now, 0);
            }
            for (int i = 0; i < n; i++) {
                if (!readLetter(machine, letterOf(letters, i))) {
                    return NONE;
                }
            }
            writeFinalWords(machine);
            return now.size;
        }

        private boolean readLetter(Machine machine, int letter) {
            then.clear();
            for (int way = 0; way < now.size; way++) {
                loadWay(now, way, base);
                int place = stateOf(now, way) * LETTERS + letter;
                for (int i = machine.begin[place]; i < machine.begin[place + 1]; i++) {
                    int e = machine.sorted[i];
                    word.copy(base);
                    word.append(machine.written[e]);
                    if (!addWay(then, machine.to[e])) {
                        return false;
                    }
                }
            }
            swap();
            return true;
        }

        private void writeFinalWords(Machine machine) {
            then.clear();
            for (int way = 0; way < now.size; way++) {
                int state = stateOf(now, way);
                if (machine.isClosing(state)) {
                    loadWay(now, way, word);
                    word.append(machine.closings[state]);
                    addWay(then, 0);
                }
            }
            swap();
        }

        /** The output that so many others come before. */
        void tellOutput(int k, Word into) {
            into.clear();
            if (k < 0 || k >= now.size) {
                return;
            }
            for (int way = 0; way < now.size; way++) {
                loadWay(now, way, word);
                if (waysBefore() == k) {
                    into.copy(word);
                }
            }
        }

        private int waysBefore() {
            int before = 0;
            for (int way = 0; way < now.size; way++) {
                loadWay(now, way, base);
                if (base.isBefore(word)) {
                    before++;
                }
            }
            return before;
        }

        private boolean addWay(Rows rows, int state) {
            row[0] = (long) state << 8 | word.length;
            word.store(row, 1, READ_CELLS);
            return rows.add(row);
        }

        private static int stateOf(Rows rows, int way) {
            return (int) (rows.cells[way * rows.width] >>> 8);
        }

        private static void loadWay(Rows rows, int way, Word into) {
            int at = way * rows.width;
            into.load(rows.cells, at + 1, READ_CELLS, (int) (rows.cells[at] & 255L));
        }

        private void swap() {
            Rows before = now;
            now = then;
            then = before;
        }
    }

    /**
     * Looks for the first word by which two machines write different outputs. A node is a pair of
     * states and what each has written without what both begin with alike (a clash, when both rests
     * have signs then: no output will be the same any more). Whatever two ways write behind a pair,
     * only one difference before can make the outputs the same; so of three nodes of a pair the
     * third is never needed: what it tells apart, one of the two before tells apart no later.
     */
    private static final class PairSearch {
        private static final int NODES = 2 * STATE_PAIRS;

        private Machine left;
        private Machine right;
        private int nodes;
        private final int[] leftState = new int[NODES];
        private final int[] rightState = new int[NODES];
        private final boolean[] clash = new boolean[NODES];
        private final Word[] leftRest = new Word[NODES];
        private final Word[] rightRest = new Word[NODES];
        private final int[] kept = new int[STATE_PAIRS];
        private final int[] keptFirst = new int[STATE_PAIRS];
        /** The nodes of one word are a group; groups come in the order of their words. */
        private int groups;
        private final int[] groupBegin = new int[NODES + 1];
        private final int[] groupBefore = new int[NODES + 1];
        private final int[] groupLetter = new int[NODES + 1];
        private final int[] groupLength = new int[NODES + 1];
        private int found;
        private final Word leftWord = new Word(REST_ROOM);
        private final Word rightWord = new Word(REST_ROOM);

        PairSearch() {
            for (int i = 0; i < NODES; i++) {
                leftRest[i] = new Word(REST_ROOM);
                rightRest[i] = new Word(REST_ROOM);
            }
        }

        void begin(Machine one, Machine two) {
            left = one;
            right = two;
            nodes = 0;
            groups = 0;
            groupLength[0] = 0;
            groupBegin[0] = 0;
            found = NONE;
            Arrays.fill(kept, 0);
        }

        /** A pair of states to begin with, and what was written before it. */
        void start(int p, int q, Word one, Word two) {
            leftWord.copy(one);
            rightWord.copy(two);
            visit(p, q, cutAlike());
        }

        boolean search() {
            closeGroup();
            for (int group = 0; found == NONE && group < groups && group < NODES; group++) {
                for (int letter = 0; found == NONE && letter < LETTERS; letter++) {
                    spread(group, letter);
                    closeGroup();
                }
            }
            return found != NONE;
        }

        /** The word that search() found. */
        void tellWord(Word into) {
            int group = found;
            int length = group == NONE ? 0 : groupLength[group];
            into.stretch(length);
            for (int i = length - 1; i >= 0; i--) {
                into.put(i, groupLetter[group]);
                group = groupBefore[group];
            }
        }

        private void closeGroup() {
            if (nodes > groupBegin[groups] && groups < NODES) {
                groups++;
                groupBegin[groups] = nodes;
            }
        }

        private void spread(int group, int letter) {
            groupBefore[groups] = group;
            groupLetter[groups] = letter;
            groupLength[groups] = groupLength[group] + 1;
            for (int node = groupBegin[group]; node < groupBegin[group + 1]; node++) {
                int p = leftState[node] * LETTERS + letter;
                int q = rightState[node] * LETTERS + letter;
                for (int i = left.begin[p]; i < left.begin[p + 1]; i++) {
                    for (int j = right.begin[q]; j < right.begin[q + 1]; j++) {
                        int e = left.sorted[i];
                        int f = right.sorted[j];
                        if (kept[left.to[e] * STATES + right.to[f]] < 2) {
                            visit(left.to[e], right.to[f], follow(node, e, f));
                        }
                    }
                }
            }
        }

        /** Whether there is a clash behind the two edges. */
        private boolean follow(int node, int leftEdge, int rightEdge) {
            leftWord.copy(leftRest[node]);
            rightWord.copy(rightRest[node]);
            if (clash[node]) {
                return true;
            }
            leftWord.append(left.written[leftEdge]);
            rightWord.append(right.written[rightEdge]);
            return cutAlike();
        }

        /** Whether both rests have signs left; these do not matter any more then. */
        private boolean cutAlike() {
            int alike = leftWord.alikeWith(rightWord);
            leftWord.drop(alike);
            rightWord.drop(alike);
            boolean apart = leftWord.length > 0 && rightWord.length > 0;
            if (apart) {
                leftWord.clear();
                rightWord.clear();
            }
            return apart;
        }

        private void visit(int p, int q, boolean apart) {
            int pair = p * STATES + q;
            if (kept[pair] >= 2 || kept[pair] == 1 && isNode(keptFirst[pair], apart) || nodes >= NODES) {
                return;
            }
            if (kept[pair] == 0) {
                keptFirst[pair] = nodes;
            }
            kept[pair]++;
            leftState[nodes] = p;
            rightState[nodes] = q;
            clash[nodes] = apart;
            leftRest[nodes].copy(leftWord);
            rightRest[nodes].copy(rightWord);
            nodes++;
            if (found == NONE && endsApart(p, q, apart)) {
                found = groups;
            }
        }

        private boolean isNode(int node, boolean apart) {
            return clash[node] == apart && leftRest[node].isLike(leftWord) && rightRest[node].isLike(rightWord);
        }

        /** Spoils the two words, which are kept in the node by then. */
        private boolean endsApart(int p, int q, boolean apart) {
            if (!left.isClosing(p) || !right.isClosing(q)) {
                return false;
            }
            leftWord.append(left.closings[p]);
            rightWord.append(right.closings[q]);
            return apart || !leftWord.isLike(rightWord);
        }
    }

    /** Looks for the first word that one of two machines reads to the end, and the other one does not. */
    private static final class DomainSearch {
        private final byte[] seen = new byte[SUBSET_PAIRS];
        private final int[] queue = new int[SUBSET_PAIRS];
        private final int[] before = new int[SUBSET_PAIRS];
        private final byte[] by = new byte[SUBSET_PAIRS];
        private int size;
        private int found;

        boolean search(Machine one, Machine two) {
            Arrays.fill(seen, (byte) 0);
            size = 0;
            found = NONE;
            visit(one, two, one.alive & 1, two.alive & 1);
            for (int i = 0; found == NONE && i < size && i < SUBSET_PAIRS; i++) {
                int oneSet = queue[i] / SUBSETS;
                int twoSet = queue[i] % SUBSETS;
                for (int letter = 0; found == NONE && letter < LETTERS; letter++) {
                    if (visit(one, two, one.after(oneSet, letter), two.after(twoSet, letter))) {
                        before[size - 1] = i;
                        by[size - 1] = (byte) letter;
                    }
                }
            }
            return found != NONE;
        }

        /** Whether the pair of sets is a new one. */
        private boolean visit(Machine one, Machine two, int oneSet, int twoSet) {
            int pair = oneSet * SUBSETS + twoSet;
            if (seen[pair] != 0 || size >= SUBSET_PAIRS) {
                return false;
            }
            seen[pair] = 1;
            queue[size] = pair;
            before[size] = NONE;
            if (one.accepts(oneSet) != two.accepts(twoSet)) {
                found = size;
            }
            size++;
            return true;
        }

        /** The word that search() found. */
        void tellWord(Word into) {
            int length = 0;
            for (int i = found; i > 0 && length < SUBSET_PAIRS; i = before[i]) {
                length++;
            }
            into.stretch(length);
            int at = found;
            for (int i = length - 1; i >= 0; i--) {
                into.put(i, by[at]);
                at = before[at];
            }
        }
    }

    /** Looks for all residuals, length by length of the words. */
    private static final class ResidualSearch {
        private final Rows seen = new Rows(MOST_RESIDUALS, 1 + 2 * RESIDUAL_CELLS, RESIDUAL_SLOTS);
        private final long[] row = new long[1 + 2 * RESIDUAL_CELLS];
        private final Word leftBase = new Word(RESIDUAL_CELLS * CELL);
        private final Word rightBase = new Word(RESIDUAL_CELLS * CELL);
        private final Word leftWord = new Word(RESIDUAL_CELLS * CELL);
        private final Word rightWord = new Word(RESIDUAL_CELLS * CELL);
        private Machine machine;
        private int bound;
        private boolean tooLong;
        private boolean tooMany;

        int verdictOn(Machine asked) {
            machine = asked;
            int states = Integer.bitCount(asked.alive);
            bound = states * states * asked.longestWord();
            tooLong = false;
            tooMany = false;
            seen.clear();
            if (states > 0) {
                leftWord.clear();
                rightWord.clear();
                keep(0, 0);
            }
            int done = 0;
            for (int length = 0; length <= MOST_RESIDUALS && done < seen.size; length++) {
                int end = seen.size;
                for (int i = done; i < end && !tooLong; i++) {
                    spread(i);
                }
                // A residual that is too long counts more than too many of the same length.
                if (tooLong) {
                    return UNSTEADY;
                }
                if (tooMany) {
                    return TOO_MANY;
                }
                done = end;
            }
            return STEADY;
        }

        private void spread(int number) {
            int base = number * seen.width;
            int p = (int) (seen.cells[base] >>> 24 & 255L);
            int q = (int) (seen.cells[base] >>> 16 & 255L);
            leftBase.load(seen.cells, base + 1, RESIDUAL_CELLS, (int) (seen.cells[base] >>> 8 & 255L));
            rightBase.load(seen.cells, base + 1 + RESIDUAL_CELLS, RESIDUAL_CELLS, (int) (seen.cells[base] & 255L));
            for (int letter = 0; letter < LETTERS; letter++) {
                int left = p * LETTERS + letter;
                int right = q * LETTERS + letter;
                for (int i = machine.begin[left]; i < machine.begin[left + 1]; i++) {
                    for (int j = machine.begin[right]; j < machine.begin[right + 1]; j++) {
                        follow(machine.sorted[i], machine.sorted[j]);
                    }
                }
            }
        }

        private void follow(int leftEdge, int rightEdge) {
            leftWord.copy(leftBase);
            rightWord.copy(rightBase);
            leftWord.append(machine.written[leftEdge]);
            rightWord.append(machine.written[rightEdge]);
            int alike = leftWord.alikeWith(rightWord);
            leftWord.drop(alike);
            rightWord.drop(alike);
            if (leftWord.length > bound || rightWord.length > bound) {
                tooLong = true;
            } else if (!tooMany) {
                keep(machine.to[leftEdge], machine.to[rightEdge]);
            }
        }

        private void keep(int p, int q) {
            row[0] = (long) p << 24 | (long) q << 16 | (long) leftWord.length << 8 | rightWord.length;
            leftWord.store(row, 1, RESIDUAL_CELLS);
            rightWord.store(row, 1 + RESIDUAL_CELLS, RESIDUAL_CELLS);
            tooMany = !seen.add(row);
        }
    }

    /** A machine that never guesses; it has no states as long as none was made. */
    private static final class SmallMachine {
        int states = 0;
        final int[] targets = new int[MOST_SMALL_STATES * LETTERS];
        final Word[] written = new Word[MOST_SMALL_STATES * LETTERS];
        final boolean[] closing = new boolean[MOST_SMALL_STATES];
        final Word[] closings = new Word[MOST_SMALL_STATES];
        final Word opening = new Word(SMALL_ROOM);

        SmallMachine() {
            for (int i = 0; i < written.length; i++) {
                written[i] = new Word(SMALL_ROOM);
            }
            for (int i = 0; i < closings.length; i++) {
                closings[i] = new Word(SMALL_ROOM);
            }
        }

        boolean hasState(int state) {
            return state >= 0 && state < states;
        }

        /** A new state without a final word and edges: its number. */
        int addState() {
            int number = states;
            closing[number] = false;
            closings[number].clear();
            for (int letter = 0; letter < LETTERS; letter++) {
                targets[number * LETTERS + letter] = NONE;
                written[number * LETTERS + letter].clear();
            }
            states++;
            return number;
        }
    }

    /**
     * Makes the smallest machine of a steady function. First a machine is made that writes all as
     * early as can be; then its states are followed as sets, each state with what it has written
     * and the set has not. Of sets behind which the same is written only the first one is kept, so
     * that no more than 40 are ever needed.
     */
    private static final class Builder {
        /** More sweeps than all the signs that the words that are cut can have together. */
        private static final int SWEEPS = 200;

        private final Machine early = new Machine();
        private final Word[] heads = new Word[STATES];
        private int headsKnown;
        private final Word head = new Word(EDGE_ROOM);
        private final Word part = new Word(EDGE_ROOM);
        private final int[] after = new int[SUBSETS * LETTERS];
        private int[] kind = new int[SUBSETS];
        private int[] finer = new int[SUBSETS];
        private final int[] sets = new int[MOST_SMALL_STATES];
        private final Word[] rests = new Word[MOST_SMALL_STATES * STATES];
        private int newSet;
        private final Word[] newRests = new Word[STATES];
        private final Word lead = new Word(SMALL_ROOM);

        Builder() {
            for (int q = 0; q < STATES; q++) {
                heads[q] = new Word(EDGE_ROOM);
                newRests[q] = new Word(SMALL_ROOM);
            }
            for (int i = 0; i < rests.length; i++) {
                rests[i] = new Word(SMALL_ROOM);
            }
        }

        /** False when it would have too many states. */
        boolean build(Machine machine, SmallMachine into, PairSearch pairs) {
            into.states = 0;
            into.opening.clear();
            if (machine.alive == 0) {
                into.addState();
                return true;
            }
            findHeads(machine);
            makeEarly(machine);
            findKinds();
            into.opening.copy(early.opening);
            newSet = 1;
            newRests[0].clear();
            addSet(into);
            for (int place = 0; place < into.states * LETTERS && place < into.targets.length; place++) {
                follow(place / LETTERS, place % LETTERS);
                if (newSet != 0) {
                    int target = equalSet(into.states);
                    if (target == NONE) {
                        target = alikeSet(into.states, pairs);
                    }
                    if (target == NONE) {
                        target = addSet(into);
                    }
                    if (target == NONE) {
                        return false;
                    }
                    into.targets[place] = target;
                    into.written[place].copy(lead);
                }
            }
            return true;
        }

        /** What is written from each state on always begins with the state's head. */
        private void findHeads(Machine machine) {
            headsKnown = 0;
            boolean changed = true;
            for (int sweep = 0; changed && sweep < SWEEPS; sweep++) {
                changed = false;
                for (int q = 0; q < machine.states; q++) {
                    if (has(machine.alive, q) && findHead(machine, q)) {
                        changed = true;
                    }
                }
            }
        }

        /** Whether the head is another one than before. */
        private boolean findHead(Machine machine, int q) {
            boolean any = machine.isClosing(q);
            if (any) {
                head.copy(machine.closings[q]);
            }
            for (int i = machine.begin[q * LETTERS]; i < machine.begin[(q + 1) * LETTERS]; i++) {
                int e = machine.sorted[i];
                if (has(headsKnown, machine.to[e])) {
                    part.copy(machine.written[e]);
                    part.append(heads[machine.to[e]]);
                    if (any) {
                        head.keepFirst(head.alikeWith(part));
                    } else {
                        head.copy(part);
                    }
                    any = true;
                }
            }
            if (!any || has(headsKnown, q) && head.isLike(heads[q])) {
                return false;
            }
            headsKnown |= 1 << q;
            heads[q].copy(head);
            return true;
        }

        /** The same machine, but each state's head is written before the state is come to. */
        private void makeEarly(Machine machine) {
            early.reset(machine.states);
            early.opening.copy(machine.opening);
            early.opening.append(heads[0]);
            for (int q = 0; q < machine.states; q++) {
                if (machine.isClosing(q)) {
                    early.giveClosing(q);
                    early.closings[q].copy(machine.closings[q]);
                    early.closings[q].drop(heads[q].length);
                }
            }
            for (int i = 0; i < machine.begin[PLACES]; i++) {
                int e = machine.sorted[i];
                int number = early.addEdge(machine.from[e], machine.letter[e], machine.to[e]);
                early.written[number].copy(machine.written[e]);
                early.written[number].append(heads[machine.to[e]]);
                early.written[number].drop(heads[machine.from[e]].length);
            }
            early.settle();
        }

        /** Sets of states are of one kind, if the same words can be read to the end from them. */
        private void findKinds() {
            for (int set = 0; set < SUBSETS; set++) {
                kind[set] = early.accepts(set) ? 1 : 0;
                for (int letter = 0; letter < LETTERS; letter++) {
                    after[set * LETTERS + letter] = early.after(set, letter);
                }
            }
            int kinds = 0;
            boolean more = true;
            for (int round = 0; more && round < SUBSETS; round++) {
                int finerKinds = splitKinds();
                more = finerKinds > kinds;
                kinds = finerKinds;
            }
        }

        /** A set gets the number of the first set that can't be told from it so far. How many kinds there are. */
        private int splitKinds() {
            int kinds = 0;
            for (int set = 0; set < SUBSETS; set++) {
                int first = 0;
                while (first < set && !isOfOneKind(first, set)) {
                    first++;
                }
                finer[set] = first;
                if (first == set) {
                    kinds++;
                }
            }
            int[] before = kind;
            kind = finer;
            finer = before;
            return kinds;
        }

        private boolean isOfOneKind(int one, int two) {
            boolean same = kind[one] == kind[two];
            for (int letter = 0; same && letter < LETTERS; letter++) {
                same = kind[after[one * LETTERS + letter]] == kind[after[two * LETTERS + letter]];
            }
            return same;
        }

        /** The set behind a letter, and what is written on the way as lead. */
        private void follow(int state, int letter) {
            newSet = 0;
            for (int q = 0; q < early.states; q++) {
                if (has(sets[state], q)) {
                    followFrom(q, letter, rests[state * STATES + q]);
                }
            }
            cutLead();
        }

        private void followFrom(int q, int letter, Word rest) {
            int place = q * LETTERS + letter;
            for (int i = early.begin[place]; i < early.begin[place + 1]; i++) {
                int e = early.sorted[i];
                int to = early.to[e];
                newSet |= 1 << to;
                // In a function all ways to one state have written the same.
                newRests[to].copy(rest);
                newRests[to].append(early.written[e]);
            }
        }

        private void cutLead() {
            boolean any = false;
            for (int q = 0; q < STATES; q++) {
                if (has(newSet, q) && any) {
                    lead.keepFirst(lead.alikeWith(newRests[q]));
                } else if (has(newSet, q)) {
                    lead.copy(newRests[q]);
                    any = true;
                }
            }
            for (int q = 0; q < STATES; q++) {
                if (has(newSet, q)) {
                    newRests[q].drop(lead.length);
                }
            }
        }

        /** The state of this very set: most sets that come again are found so without a search. */
        private int equalSet(int states) {
            for (int state = 0; state < states; state++) {
                boolean equal = sets[state] == newSet;
                for (int q = 0; equal && q < STATES; q++) {
                    equal = !has(newSet, q) || rests[state * STATES + q].isLike(newRests[q]);
                }
                if (equal) {
                    return state;
                }
            }
            return NONE;
        }

        /** The state behind which the same is written for the same words. */
        private int alikeSet(int states, PairSearch pairs) {
            for (int state = 0; state < states; state++) {
                if (kind[sets[state]] == kind[newSet]) {
                    pairs.begin(early, early);
                    startPairs(state, pairs);
                    if (!pairs.search()) {
                        return state;
                    }
                }
            }
            return NONE;
        }

        private void startPairs(int state, PairSearch pairs) {
            for (int p = 0; p < STATES; p++) {
                for (int q = 0; q < STATES; q++) {
                    if (has(sets[state], p) && has(newSet, q)) {
                        pairs.start(p, q, rests[state * STATES + p], newRests[q]);
                    }
                }
            }
        }

        /** The state of the new set; NONE when it would be one too many. */
        private int addSet(SmallMachine into) {
            if (into.states >= MOST_SMALL_STATES) {
                return NONE;
            }
            int state = into.addState();
            sets[state] = newSet;
            for (int q = 0; q < STATES; q++) {
                if (has(newSet, q)) {
                    rests[state * STATES + q].copy(newRests[q]);
                    if (early.isClosing(q)) {
                        into.closing[state] = true;
                        into.closings[state].copy(newRests[q]);
                        into.closings[state].append(early.closings[q]);
                    }
                }
            }
            return state;
        }
    }
}
