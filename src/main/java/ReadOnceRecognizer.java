import java.util.Arrays;

/**
 * A recognizer for monotone read-once Boolean functions of up to five variables.
 *
 * <p>A function is a truth table in a long, whose bit p is the value at point p; a set of variables and a point are
 * both an int, whose bit v stands for variable v.
 */
public final class ReadOnceRecognizer {
    public static final int NONE = -1;
    public static final int BAD_ARGUMENT = -2;
    public static final int EMPTY_SLOT = -3;
    public static final int NOT_MONOTONE = -4;
    public static final int NOT_READ_ONCE = -5;
    public static final int FULL = -6;
    public static final int NOTHING_SAVED = -7;

    private static final int NO_ARRAY = -11;
    private static final int NO_INDEX = -13;
    private static final int NEGATIVE_LENGTH = -14;
    private static final int TEXT_ERROR = -100;
    private static final int OK = 0;

    private static final int SLOTS = 8;
    private static final int FIRST_VARIABLES = 3;
    private static final int MAX_VARIABLES = 5;
    private static final int MAX_POINTS = 32;
    private static final int MAX_DRAWS = 12;
    private static final int MAX_TRIALS = 30;
    private static final int MAX_STEPS = 8;
    private static final int STEP_SIZE = 4;
    private static final int OPERATORS = 3;
    private static final int OPERATIONS = 6;
    private static final int MAX_RECORDS = 10;
    private static final int ARRAYS = 4;
    private static final int MAX_LENGTH = 16;
    private static final int PATH_LENGTH = 4;

    private static final int AND_NODE = 10;
    private static final int OR_NODE = 11;

    // No truth table is negative, so this one can stand for an empty slot and for a text that is no formula.
    private static final long NO_FUNCTION = -1L;

    private static final long WIDEST_TABLE = 0xFFFFFFFFL;

    // The tables of the single variables for five variables; their low bits are those for fewer.
    private static final long[] VARIABLE_TABLES = {
        0xAAAAAAAAL, 0xCCCCCCCCL, 0xF0F0F0F0L, 0xFF00FF00L, 0xFFFF0000L
    };

    private final State state = new State();
    private final State saved = new State();
    private boolean hasSaved = false;
    private final History history = new History();
    private final Graph graph = new Graph();
    private final Cotree cotree = new Cotree();
    private final Input input = new Input();
    private final FormulaText written = new FormulaText();
    private final int[] elements = new int[ARRAYS * MAX_LENGTH];
    private final int[] lengths = new int[ARRAYS];
    // Made at the first question that needs it, because most objects are never asked one.
    private Catalog catalog = null;

    public ReadOnceRecognizer() {
        Arrays.fill(lengths, NONE);
    }

    // ---- variables and slots

    public int setVariables(int n) {
        if (n < 1 || n > MAX_VARIABLES) {
            return BAD_ARGUMENT;
        }
        int previous = state.n;
        state.startAnew(n);
        history.forget();
        return previous;
    }

    public int variables() {
        return state.n;
    }

    public int setTable(int slot, long table) {
        if (!isSlot(slot) || table < 0 || table > fullTable(state.n)) {
            return BAD_ARGUMENT;
        }
        return store(slot, table);
    }

    public long table(int slot) {
        int error = slotError(slot);
        return error != OK ? error : state.functions[slot];
    }

    public int clear(int slot) {
        int error = slotError(slot);
        if (error != OK) {
            return error;
        }
        store(slot, NO_FUNCTION);
        return state.usedCount();
    }

    public int value(int slot, int point) {
        if (!isPoint(point)) {
            return BAD_ARGUMENT;
        }
        int error = slotError(slot);
        return error != OK ? error : bitAt(state.functions[slot], point);
    }

    public int usedSlots() {
        return state.usedCount();
    }

    // ---- what a function is

    public int essential(int slot) {
        int error = slotError(slot);
        return error != OK ? error : essentialSet(state.n, state.functions[slot]);
    }

    public int isMonotone(int slot) {
        int error = slotError(slot);
        if (error != OK) {
            return error;
        }
        return lowestViolation(state.n, state.functions[slot]) == NONE ? 1 : 0;
    }

    public int violatingPoint(int slot) {
        int error = slotError(slot);
        return error != OK ? error : lowestViolation(state.n, state.functions[slot]);
    }

    public int primeImplicants(int slot) {
        int error = drawGraph(slot);
        return error != OK ? error : graph.primeCount;
    }

    public int primeImplicant(int slot, int i) {
        int error = drawGraph(slot);
        return error != OK ? error : graph.primeAt(i);
    }

    public int neighbors(int slot, int variable) {
        if (!isVariable(variable)) {
            return BAD_ARGUMENT;
        }
        int error = drawGraph(slot);
        return error != OK ? error : graph.adjacent[variable];
    }

    public int inducedPath(int slot, int i) {
        if (!isIndex(i, PATH_LENGTH)) {
            return BAD_ARGUMENT;
        }
        int error = drawGraph(slot);
        if (error != OK) {
            return error;
        }
        return graph.findPath() ? graph.path[i] : NONE;
    }

    public int badClique(int slot) {
        int error = drawGraph(slot);
        return error != OK ? error : graph.lowestBadClique();
    }

    public int reason(int slot) {
        int error = slotError(slot);
        return error != OK ? error : whyNotReadOnce(state.functions[slot]);
    }

    // ---- the cotree and its formula

    public int nodes(int slot) {
        int error = growCotree(slot);
        return error != OK ? error : cotree.count;
    }

    public int nodeType(int slot, int node) {
        int error = growCotree(slot);
        if (error != OK) {
            return error;
        }
        return cotree.has(node) ? cotree.types[node] : NONE;
    }

    public int parent(int slot, int node) {
        int error = growCotree(slot);
        if (error != OK) {
            return error;
        }
        return cotree.has(node) ? cotree.parents[node] : NONE;
    }

    public int depth(int slot, int variable) {
        if (!isVariable(variable)) {
            return BAD_ARGUMENT;
        }
        int error = growCotree(slot);
        return error != OK ? error : cotree.depthOfLeaf(variable);
    }

    public int writeFormula(int slot) {
        int error = growCotree(slot);
        if (error != OK) {
            return error;
        }
        written.length = 0;
        if (cotree.count == 0) {
            written.put(state.functions[slot] == 0 ? '0' : '1');
        } else {
            written.putTree(cotree);
        }
        return written.length;
    }

    public int output(int i) {
        return isIndex(i, written.length) ? written.signs[i] : NONE;
    }

    // ---- reading a formula

    public int feed(int letter) {
        if (letter < 1 || letter > 127) {
            return BAD_ARGUMENT;
        }
        return input.append(letter) ? input.length : FULL;
    }

    public int parse(int slot) {
        if (!isSlot(slot)) {
            return BAD_ARGUMENT;
        }
        long table = input.readFormula(state.n);
        input.length = 0;
        if (table == NO_FUNCTION) {
            return TEXT_ERROR - input.position;
        }
        store(slot, table);
        return input.occurrences;
    }

    // ---- functions made of functions

    public int combine(int operator, int left, int right, int target) {
        if (!isIndex(operator, OPERATORS) || !isSlot(left) || !isSlot(right) || !isSlot(target)) {
            return BAD_ARGUMENT;
        }
        if (!state.holds(left) || !state.holds(right)) {
            return EMPTY_SLOT;
        }
        return store(target, applied(operator, state.functions[left], state.functions[right]));
    }

    public int dual(int slot, int target) {
        if (!isSlot(slot) || !isSlot(target)) {
            return BAD_ARGUMENT;
        }
        if (!state.holds(slot)) {
            return EMPTY_SLOT;
        }
        long given = state.functions[slot];
        int last = pointCount(state.n) - 1;
        long result = 0;
        for (int point = 0; point <= last; point++) {
            result |= (1L - bitAt(given, last - point)) << point;
        }
        return store(target, result);
    }

    public int cofactor(int slot, int variable, int bit, int target) {
        if (!isSlot(slot) || !isVariable(variable) || !isBit(bit) || !isSlot(target)) {
            return BAD_ARGUMENT;
        }
        if (!state.holds(slot)) {
            return EMPTY_SLOT;
        }
        long constant = bit == 1 ? fullTable(state.n) : 0L;
        return store(target, substituted(state.functions[slot], variable, constant));
    }

    public int substitute(int outer, int variable, int inner, int target) {
        if (!isSlot(outer) || !isVariable(variable) || !isSlot(inner) || !isSlot(target)) {
            return BAD_ARGUMENT;
        }
        if (!state.holds(outer) || !state.holds(inner)) {
            return EMPTY_SLOT;
        }
        return store(target, substituted(state.functions[outer], variable, state.functions[inner]));
    }

    public int exchange(int slot, int first, int second, int target) {
        if (!isSlot(slot) || !isVariable(first) || !isVariable(second) || !isSlot(target)) {
            return BAD_ARGUMENT;
        }
        if (!state.holds(slot)) {
            return EMPTY_SLOT;
        }
        long given = state.functions[slot];
        long result = 0;
        for (int point = 0; point < pointCount(state.n); point++) {
            int moved = withBit(point, first, bitAt(point, second));
            moved = withBit(moved, second, bitAt(point, first));
            result |= (long) bitAt(given, moved) << point;
        }
        return store(target, result);
    }

    // ---- pseudorandom functions

    public int random(int seed, int draws, int target) {
        if (!isIndex(draws, MAX_DRAWS + 1) || !isSlot(target)) {
            return BAD_ARGUMENT;
        }
        return store(target, drawnTable(seed, draws));
    }

    public int readOnceTrials(int seed, int draws, int trials) {
        if (!isIndex(draws, MAX_DRAWS + 1) || trials < 1 || trials > MAX_TRIALS) {
            return BAD_ARGUMENT;
        }
        int found = 0;
        for (int trial = 0; trial < trials; trial++) {
            if (whyNotReadOnce(drawnTable(seed + trial, draws)) == OK) {
                found++;
            }
        }
        return found;
    }

    // ---- samples and extensions

    public int addSample(int point, int bit) {
        if (!isPoint(point) || !isBit(bit)) {
            return BAD_ARGUMENT;
        }
        state.samplePoints |= 1L << point;
        state.sampleBits &= ~(1L << point);
        state.sampleBits |= (long) bit << point;
        return Long.bitCount(state.samplePoints);
    }

    public int removeSample(int point) {
        if (!isPoint(point)) {
            return BAD_ARGUMENT;
        }
        if (bitAt(state.samplePoints, point) == 0) {
            return NONE;
        }
        state.samplePoints &= ~(1L << point);
        state.sampleBits &= ~(1L << point);
        return Long.bitCount(state.samplePoints);
    }

    public int extensions() {
        Catalog all = openCatalog();
        int found = 0;
        for (int i = 0; i < all.count; i++) {
            if (isExtension(all, i)) {
                found++;
            }
        }
        return found;
    }

    public long extension(int i) {
        Catalog all = openCatalog();
        int found = 0;
        for (int k = 0; k < all.count; k++) {
            if (isExtension(all, k)) {
                if (found == i) {
                    return all.tableAt(k) & fullTable(state.n);
                }
                found++;
            }
        }
        return NONE;
    }

    public long simplestExtension() {
        Catalog all = openCatalog();
        long simplest = NONE;
        int fewest = MAX_VARIABLES + 1;
        for (int i = 0; i < all.count; i++) {
            int size = Integer.bitCount(all.supportAt(i));
            if (size < fewest && isExtension(all, i)) {
                fewest = size;
                simplest = all.tableAt(i) & fullTable(state.n);
            }
        }
        return simplest;
    }

    public int readOnceCount(int k) {
        if (!isIndex(k, state.n + 1)) {
            return BAD_ARGUMENT;
        }
        Catalog all = openCatalog();
        int found = 0;
        for (int i = 0; i < all.count; i++) {
            int support = all.supportAt(i);
            if (isPoint(support) && Integer.bitCount(support) == k) {
                found++;
            }
        }
        return found;
    }

    // ---- the program of steps

    public int addStep(int operation, int first, int second, int target) {
        if (!isIndex(operation, OPERATIONS)) {
            return BAD_ARGUMENT;
        }
        if (state.stepCount >= MAX_STEPS) {
            return FULL;
        }
        state.appendStep(operation, first, second, target);
        return state.stepCount;
    }

    public int clearSteps() {
        int deleted = state.stepCount;
        state.stepCount = 0;
        return deleted;
    }

    public int runSteps() {
        int done = 0;
        for (int i = 0; i < state.stepCount; i++) {
            if (runStep(i * STEP_SIZE) >= 0) {
                done++;
            }
        }
        return done;
    }

    // ---- history and saved state

    public int undo() {
        int latest = history.count - 1;
        if (!isIndex(latest, MAX_RECORDS) || !isSlot(history.slots[latest])) {
            return NOTHING_SAVED;
        }
        int slot = history.slots[latest];
        state.functions[slot] = history.contents[latest];
        history.count = latest;
        return slot;
    }

    public int undoable() {
        return history.count;
    }

    public int save() {
        saved.copyFrom(state);
        hasSaved = true;
        return state.usedCount();
    }

    public int restore() {
        if (!hasSaved) {
            return NOTHING_SAVED;
        }
        state.copyFrom(saved);
        history.forget();
        return state.usedCount();
    }

    // ---- arrays

    public int createArray(int array, int length) {
        if (!isIndex(array, ARRAYS) || length > MAX_LENGTH) {
            return BAD_ARGUMENT;
        }
        if (length < 0) {
            return NEGATIVE_LENGTH;
        }
        lengths[array] = length;
        for (int i = 0; i < MAX_LENGTH; i++) {
            elements[array * MAX_LENGTH + i] = 0;
        }
        return 1;
    }

    public int setElement(int array, int i, int v) {
        if (!isIndex(array, ARRAYS)) {
            return BAD_ARGUMENT;
        }
        if (lengths[array] == NONE) {
            return NO_ARRAY;
        }
        if (!isIndex(i, lengths[array])) {
            return NO_INDEX;
        }
        elements[array * MAX_LENGTH + i] = v;
        return 1;
    }

    public long element(int array, int i) {
        if (!isIndex(array, ARRAYS) || !isIndex(i, lengths[array])) {
            return Long.MIN_VALUE;
        }
        return elements[array * MAX_LENGTH + i];
    }

    public int compare(int array, int slot) {
        if (!isIndex(array, ARRAYS)) {
            return BAD_ARGUMENT;
        }
        int error = drawGraph(slot);
        if (error != OK) {
            return error;
        }
        if (lengths[array] == NONE) {
            return NO_ARRAY;
        }
        for (int i = 0; i < lengths[array]; i++) {
            if (elements[array * MAX_LENGTH + i] != graph.primeAt(i)) {
                return i;
            }
        }
        return NONE;
    }

    // ---- checks of arguments

    private static boolean isIndex(int i, int size) {
        return i >= 0 && i < size;
    }

    private static boolean isSlot(int slot) {
        return isIndex(slot, SLOTS);
    }

    private static boolean isBit(int bit) {
        return bit == 0 || bit == 1;
    }

    private boolean isPoint(int point) {
        return isIndex(point, pointCount(state.n));
    }

    private boolean isVariable(int variable) {
        return isIndex(variable, state.n);
    }

    private int slotError(int slot) {
        if (!isSlot(slot)) {
            return BAD_ARGUMENT;
        }
        return state.holds(slot) ? OK : EMPTY_SLOT;
    }

    // ---- steps that several methods share

    /** Every change of a slot goes through here, so that none escapes the history. */
    private int store(int slot, long table) {
        history.remember(slot, state.functions[slot]);
        state.functions[slot] = table;
        return Long.bitCount(table);
    }

    /** Fills the graph with that of the slot's function, or returns why there is none. */
    private int drawGraph(int slot) {
        int error = slotError(slot);
        if (error != OK) {
            return error;
        }
        if (lowestViolation(state.n, state.functions[slot]) != NONE) {
            return NOT_MONOTONE;
        }
        graph.fill(state.n, state.functions[slot]);
        return OK;
    }

    /** Fills the cotree with that of the slot's function, or returns why there is none. */
    private int growCotree(int slot) {
        int error = slotError(slot);
        if (error != OK) {
            return error;
        }
        if (whyNotReadOnce(state.functions[slot]) != OK) {
            return NOT_READ_ONCE;
        }
        cotree.fill(graph);
        return OK;
    }

    /** Returns what the method reason does; after the answer 0 the graph is that of the table. */
    private int whyNotReadOnce(long table) {
        if (lowestViolation(state.n, table) != NONE) {
            return 1;
        }
        graph.fill(state.n, table);
        if (graph.findPath()) {
            return 2;
        }
        return graph.lowestBadClique() == NONE ? OK : 3;
    }

    private int runStep(int at) {
        int operation = state.steps[at];
        int first = state.steps[at + 1];
        int second = state.steps[at + 2];
        int target = state.steps[at + 3];
        if (operation < OPERATORS) {
            return combine(operation, first, second, target);
        }
        if (operation == OPERATORS) {
            return dual(first, target);
        }
        return cofactor(first, second, operation - OPERATORS - 1, target);
    }

    private Catalog openCatalog() {
        if (catalog == null) {
            catalog = new Catalog();
        }
        return catalog;
    }

    // The catalog's tables are for five variables: a function of fewer repeats its shorter table in them, so neither
    // the order nor the low bits, where all samples lie, are other ones.
    private boolean isExtension(Catalog all, int i) {
        long differing = (all.tableAt(i) ^ state.sampleBits) & state.samplePoints;
        return isPoint(all.supportAt(i)) && differing == 0;
    }

    // ---- truth tables

    private static int pointCount(int n) {
        return 1 << n;
    }

    private static long fullTable(int n) {
        return (1L << pointCount(n)) - 1;
    }

    private static int bitAt(long table, int point) {
        return (int) ((table >>> point) & 1);
    }

    private static int withBit(int point, int variable, int bit) {
        return (point & ~(1 << variable)) | (bit << variable);
    }

    private static int essentialSet(int n, long table) {
        int set = 0;
        for (int variable = 0; variable < n; variable++) {
            for (int point = 0; point < pointCount(n); point++) {
                if (bitAt(table, point) != bitAt(table, point ^ (1 << variable))) {
                    set |= 1 << variable;
                }
            }
        }
        return set;
    }

    private static int lowestViolation(int n, long table) {
        for (int point = 0; point < pointCount(n); point++) {
            if (bitAt(table, point) == 1 && fallsAbove(n, table, point)) {
                return point;
            }
        }
        return NONE;
    }

    private static boolean fallsAbove(int n, long table, int point) {
        for (int variable = 0; variable < n; variable++) {
            if (bitAt(table, point | (1 << variable)) == 0) {
                return true;
            }
        }
        return false;
    }

    private static long applied(int operator, long left, long right) {
        if (operator == 0) {
            return left & right;
        }
        return operator == 1 ? left | right : left ^ right;
    }

    private long substituted(long outer, int variable, long inner) {
        long result = 0;
        for (int point = 0; point < pointCount(state.n); point++) {
            int moved = withBit(point, variable, bitAt(inner, point));
            result |= (long) bitAt(outer, moved) << point;
        }
        return result;
    }

    private long drawnTable(int seed, int draws) {
        int points = pointCount(state.n);
        int z = seed;
        long result = 0;
        for (int draw = 0; draw < draws; draw++) {
            z = z * 1103515245 + 12345;
            result |= supersets(points, (z >>> 16) & (points - 1));
        }
        return result;
    }

    private static long supersets(int points, int set) {
        long result = 0;
        for (int point = 0; point < points; point++) {
            if ((point & set) == set) {
                result |= 1L << point;
            }
        }
        return result;
    }

    private static boolean hasVariable(int set, int variable) {
        return ((set >> variable) & 1) == 1;
    }

    private static int lowestVariable(int set) {
        for (int variable = 0; variable < MAX_VARIABLES; variable++) {
            if (hasVariable(set, variable)) {
                return variable;
            }
        }
        return NONE;
    }

    /** All that save keeps. */
    private static final class State {
        private int n = FIRST_VARIABLES;
        private final long[] functions = new long[SLOTS];
        private long samplePoints = 0;
        private long sampleBits = 0;
        private final int[] steps = new int[MAX_STEPS * STEP_SIZE];
        private int stepCount = 0;

        State() {
            Arrays.fill(functions, NO_FUNCTION);
        }

        void startAnew(int newN) {
            n = newN;
            Arrays.fill(functions, NO_FUNCTION);
            samplePoints = 0;
            sampleBits = 0;
            stepCount = 0;
        }

        void copyFrom(State other) {
            n = other.n;
            System.arraycopy(other.functions, 0, functions, 0, SLOTS);
            samplePoints = other.samplePoints;
            sampleBits = other.sampleBits;
            System.arraycopy(other.steps, 0, steps, 0, MAX_STEPS * STEP_SIZE);
            stepCount = other.stepCount;
        }

        boolean holds(int slot) {
            return isSlot(slot) && functions[slot] != NO_FUNCTION;
        }

        int usedCount() {
            int used = 0;
            for (int slot = 0; slot < SLOTS; slot++) {
                if (holds(slot)) {
                    used++;
                }
            }
            return used;
        }

        void appendStep(int operation, int first, int second, int target) {
            if (stepCount < MAX_STEPS) {
                int at = stepCount * STEP_SIZE;
                steps[at] = operation;
                steps[at + 1] = first;
                steps[at + 2] = second;
                steps[at + 3] = target;
                stepCount++;
            }
        }
    }

    /** The latest changes of slots, the oldest first. */
    private static final class History {
        private final int[] slots = new int[MAX_RECORDS];
        private final long[] contents = new long[MAX_RECORDS];
        private int count = 0;

        void remember(int slot, long content) {
            if (count >= MAX_RECORDS) {
                System.arraycopy(slots, 1, slots, 0, MAX_RECORDS - 1);
                System.arraycopy(contents, 1, contents, 0, MAX_RECORDS - 1);
                count = MAX_RECORDS - 1;
            }
            slots[count] = slot;
            contents[count] = content;
            count++;
        }

        void forget() {
            count = 0;
        }
    }

    /** The prime implicants and the co-occurrence graph of a monotone function. */
    private static final class Graph {
        private final int[] primes = new int[MAX_POINTS];
        private int primeCount = 0;
        private int vertices = 0;
        private final int[] adjacent = new int[MAX_VARIABLES];
        private final int[] path = new int[PATH_LENGTH];

        void fill(int n, long table) {
            primeCount = 0;
            vertices = 0;
            Arrays.fill(adjacent, 0);
            for (int set = 0; set < pointCount(n); set++) {
                if (bitAt(table, set) == 1 && isMinimal(n, table, set)) {
                    addPrime(set);
                }
            }
        }

        // The function is monotone, so the subsets with one variable less speak for all proper subsets.
        private static boolean isMinimal(int n, long table, int set) {
            for (int variable = 0; variable < n; variable++) {
                int smaller = set & ~(1 << variable);
                if (smaller != set && bitAt(table, smaller) == 1) {
                    return false;
                }
            }
            return true;
        }

        // The essential variables of a monotone function are those that some prime implicant contains.
        private void addPrime(int set) {
            if (primeCount < MAX_POINTS) {
                primes[primeCount] = set;
                primeCount++;
            }
            vertices |= set;
            for (int variable = 0; variable < MAX_VARIABLES; variable++) {
                if (hasVariable(set, variable)) {
                    adjacent[variable] |= set & ~(1 << variable);
                }
            }
        }

        int primeAt(int i) {
            return isIndex(i, primeCount) ? primes[i] : NONE;
        }

        private boolean areAdjacent(int first, int second) {
            return hasVariable(adjacent[first], second);
        }

        /** Leaves the lexicographically smallest induced path in path, if there is one. */
        boolean findPath() {
            for (int u = 0; u < MAX_VARIABLES; u++) {
                for (int v = 0; v < MAX_VARIABLES; v++) {
                    if (areAdjacent(u, v) && findPathFrom(u, v)) {
                        return true;
                    }
                }
            }
            return false;
        }

        private boolean findPathFrom(int u, int v) {
            for (int w = 0; w < MAX_VARIABLES; w++) {
                if (w == u || !areAdjacent(v, w) || areAdjacent(u, w)) {
                    continue;
                }
                // What is adjacent to neither u nor v is neither of them, because they are adjacent to one another.
                int x = lowestVariable(adjacent[w] & ~adjacent[u] & ~adjacent[v]);
                if (x != NONE) {
                    path[0] = u;
                    path[1] = v;
                    path[2] = w;
                    path[3] = x;
                    return true;
                }
            }
            return false;
        }

        int lowestBadClique() {
            for (int set = 1; set <= vertices; set++) {
                if ((set & ~vertices) == 0 && isMaximalClique(set) && !isPrime(set)) {
                    return set;
                }
            }
            return NONE;
        }

        private boolean isMaximalClique(int set) {
            int common = vertices;
            for (int variable = 0; variable < MAX_VARIABLES; variable++) {
                if (hasVariable(set, variable)) {
                    int others = set & ~(1 << variable);
                    if ((others & ~adjacent[variable]) != 0) {
                        return false;
                    }
                    common &= adjacent[variable];
                }
            }
            return common == 0;
        }

        private boolean isPrime(int set) {
            for (int i = 0; i < primeCount; i++) {
                if (primes[i] == set) {
                    return true;
                }
            }
            return false;
        }
    }

    /** The cotree of a read-once function; without nodes for a constant one. */
    private static final class Cotree {
        private static final int MAX_NODES = 2 * MAX_VARIABLES - 1;

        private final int[] types = new int[MAX_NODES];
        private final int[] parents = new int[MAX_NODES];
        private int count = 0;

        void fill(Graph graph) {
            count = 0;
            if (graph.vertices != 0) {
                grow(graph, graph.vertices, NONE, 1);
            }
        }

        // A level below holds at least one variable less, so that no tree needs more levels than there are variables.
        private void grow(Graph graph, int set, int above, int level) {
            if (level > MAX_VARIABLES || count >= MAX_NODES) {
                return;
            }
            int node = count;
            count++;
            parents[node] = above;
            if (Integer.bitCount(set) == 1) {
                types[node] = lowestVariable(set);
                return;
            }
            boolean connected = component(graph, set, set, false) == set;
            types[node] = connected ? AND_NODE : OR_NODE;
            growChildren(graph, set, node, level + 1);
        }

        private void growChildren(Graph graph, int set, int node, int level) {
            int rest = set;
            for (int child = 0; child < MAX_VARIABLES && rest != 0; child++) {
                int part = component(graph, set, rest, types[node] == AND_NODE);
                grow(graph, part, node, level);
                rest &= ~part;
            }
        }

        /** Returns the part of the graph on a set, or of its complement, that holds the lowest variable of rest. */
        private static int component(Graph graph, int set, int rest, boolean complement) {
            int reached = rest & -rest;
            for (int round = 0; round < MAX_VARIABLES; round++) {
                for (int variable = 0; variable < MAX_VARIABLES; variable++) {
                    if (hasVariable(reached, variable)) {
                        int near = graph.adjacent[variable];
                        reached |= set & (complement ? ~near : near);
                    }
                }
            }
            return reached;
        }

        boolean has(int node) {
            return isIndex(node, count);
        }

        int depthOfLeaf(int variable) {
            for (int node = 0; node < count; node++) {
                if (types[node] == variable) {
                    return depthOfNode(node);
                }
            }
            return NONE;
        }

        private int depthOfNode(int node) {
            int passed = 0;
            int at = node;
            while (passed < MAX_NODES && has(at)) {
                passed++;
                at = parents[at];
            }
            return passed;
        }
    }

    /** The output buffer. */
    private static final class FormulaText {
        // Five letters, four operators and two pairs of parentheses are the longest formula.
        private static final int CAPACITY = 16;

        private final int[] signs = new int[CAPACITY];
        private int length = 0;

        void put(int sign) {
            if (length < CAPACITY) {
                signs[length] = sign;
                length++;
            }
        }

        void putTree(Cotree tree) {
            putNode(tree, 0, 1);
        }

        private void putNode(Cotree tree, int node, int level) {
            if (level > MAX_VARIABLES || !tree.has(node)) {
                return;
            }
            int type = tree.types[node];
            if (type < AND_NODE) {
                put('a' + type);
                return;
            }
            boolean first = true;
            for (int child = node + 1; child < tree.count; child++) {
                if (tree.parents[child] == node) {
                    if (!first) {
                        put(type == AND_NODE ? '*' : '+');
                    }
                    first = false;
                    putChild(tree, child, level + 1);
                }
            }
        }

        // Types alternate from level to level, so every or node that is a child stands under an and node.
        private void putChild(Cotree tree, int child, int level) {
            boolean enclosed = tree.types[child] == OR_NODE;
            if (enclosed) {
                put('(');
            }
            putNode(tree, child, level);
            if (enclosed) {
                put(')');
            }
        }
    }

    /** The input buffer and its reading; a reading that fails stops at the error position. */
    private static final class Input {
        private static final int CAPACITY = 80;
        private static final int MAX_OPEN = 6;

        private final int[] bytes = new int[CAPACITY];
        private int length = 0;
        private int n = FIRST_VARIABLES;
        private long full = fullTable(FIRST_VARIABLES);
        private int position = 0;
        private int occurrences = 0;

        boolean append(int letter) {
            if (length >= CAPACITY) {
                return false;
            }
            bytes[length] = letter;
            length++;
            return true;
        }

        long readFormula(int variables) {
            n = variables;
            full = fullTable(variables);
            position = 0;
            occurrences = 0;
            long result = readSum(0);
            return position < length ? NO_FUNCTION : result;
        }

        private boolean nextIs(int sign) {
            return position < length && bytes[position] == sign;
        }

        private long readSum(int open) {
            long result = readProduct(open);
            for (int i = 0; i < CAPACITY && result != NO_FUNCTION && nextIs('+'); i++) {
                position++;
                long term = readProduct(open);
                result = term == NO_FUNCTION ? NO_FUNCTION : result | term;
            }
            return result;
        }

        private long readProduct(int open) {
            long result = readFactor(open);
            for (int i = 0; i < CAPACITY && result != NO_FUNCTION && nextIs('*'); i++) {
                position++;
                long factor = readFactor(open);
                result = factor == NO_FUNCTION ? NO_FUNCTION : result & factor;
            }
            return result;
        }

        private long readFactor(int open) {
            if (nextIs('!') || nextIs('(')) {
                return open < MAX_OPEN ? readOpened(open + 1) : NO_FUNCTION;
            }
            return readAtom();
        }

        private long readOpened(int open) {
            boolean negated = nextIs('!');
            position++;
            long inner = negated ? readFactor(open) : readSum(open);
            if (inner == NO_FUNCTION) {
                return NO_FUNCTION;
            }
            if (negated) {
                return inner ^ full;
            }
            if (!nextIs(')')) {
                return NO_FUNCTION;
            }
            position++;
            return inner;
        }

        private long readAtom() {
            if (position >= length) {
                return NO_FUNCTION;
            }
            int sign = bytes[position];
            int variable = sign - 'a';
            if (isIndex(variable, n) && variable < MAX_VARIABLES) {
                position++;
                occurrences++;
                return VARIABLE_TABLES[variable] & full;
            }
            if (sign == '0' || sign == '1') {
                position++;
                return sign == '1' ? full : 0L;
            }
            return NO_FUNCTION;
        }
    }

    /** All read-once functions of five variables with their essential variables, ordered by their truth tables. */
    private static final class Catalog {
        private static final int TOTAL = 839;
        private static final int LEAF = 0;
        private static final int AND_ROOT = 1;
        private static final int OR_ROOT = 2;
        private static final int[] GAPS = {301, 132, 57, 23, 10, 4, 1};

        // An entry is its table, then five bits of essential variables, then two bits of its root: this sorts by table.
        private final long[] entries = new long[TOTAL];
        private int count = 0;

        Catalog() {
            int[] starts = new int[MAX_POINTS];
            enter(0L, 0, LEAF);
            enter(WIDEST_TABLE, 0, LEAF);
            for (int support = 1; support < MAX_POINTS; support++) {
                starts[support] = count;
                enterAll(support, starts);
            }
            sort();
        }

        long tableAt(int i) {
            return isIndex(i, count) ? entries[i] >>> 7 : NO_FUNCTION;
        }

        int supportAt(int i) {
            return isIndex(i, count) ? (int) (entries[i] >>> 2) & 31 : NONE;
        }

        private int rootAt(int i) {
            return isIndex(i, count) ? (int) entries[i] & 3 : NONE;
        }

        private void enter(long table, int support, int root) {
            if (count < TOTAL) {
                entries[count] = (table << 7) | ((long) support << 2) | root;
                count++;
            }
        }

        // Supports are entered in ascending order, so those of both parts of a split are there already.
        private void enterAll(int support, int[] starts) {
            int lowest = lowestVariable(support);
            if (lowest == NONE) {
                return;
            }
            if (support == 1 << lowest) {
                enter(VARIABLE_TABLES[lowest], support, LEAF);
                return;
            }
            for (int first = 1; first < support; first++) {
                if ((first & ~support) == 0 && hasVariable(first, lowest)) {
                    enterSplit(first, support & ~first, starts);
                }
            }
        }

        private void enterSplit(int first, int rest, int[] starts) {
            for (int i = starts[first]; i < starts[first + 1]; i++) {
                for (int k = starts[rest]; k < starts[rest + 1]; k++) {
                    enterJoined(tableAt(i), rootAt(i), tableAt(k), first | rest);
                }
            }
        }

        // The first part is the root's child with the lowest variable, and no child has the root's own type: so each
        // function is entered once.
        private void enterJoined(long first, int firstRoot, long rest, int support) {
            if (firstRoot != AND_ROOT) {
                enter(first & rest, support, AND_ROOT);
            }
            if (firstRoot != OR_ROOT) {
                enter(first | rest, support, OR_ROOT);
            }
        }

        private void sort() {
            for (int gap : GAPS) {
                for (int i = gap; i < count; i++) {
                    sink(i, gap);
                }
            }
        }

        private void sink(int from, int gap) {
            if (gap < 1 || !isIndex(from, count)) {
                return;
            }
            long moved = entries[from];
            int at = from;
            while (at >= gap && entries[at - gap] > moved) {
                entries[at] = entries[at - gap];
                at -= gap;
            }
            entries[at] = moved;
        }
    }
}
