/**
 * Three threads over two shared variables and two locks, run step by step and recorded.
 *
 * A state is a row of WIDTH ints: variables, registers, positions in the programs, lock holders.
 */
public final class RaceRecorder {
    public static final int BAD_ARG = -1000000001;
    public static final int FULL = -1000000002;
    public static final int BUSY = -1000000003;
    public static final int NONE = -1000000004;

    private static final int THREADS = 3;
    private static final int VARIABLES = 2;
    private static final int LOCKS = 2;
    private static final int PROGRAM_LIMIT = 4;
    private static final int TOTAL_LIMIT = 8;
    private static final int OPERATION_SLOTS = THREADS * PROGRAM_LIMIT;
    private static final int ADD_LIMIT = 9;

    private static final int READ = 0;
    private static final int WRITE = 1;
    private static final int ADD = 2;
    private static final int LOCK = 3;
    private static final int UNLOCK = 4;

    private static final int REGISTER = VARIABLES;
    private static final int POSITION = REGISTER + THREADS;
    private static final int HOLDER = POSITION + THREADS;
    private static final int WIDTH = HOLDER + LOCKS;
    private static final int ROWS = TOTAL_LIMIT + 1;
    private static final int STATE_CELLS = ROWS * WIDTH;
    private static final int EVENT_SETS = 1 << TOTAL_LIMIT;

    // Who holds a lock follows from the positions, so it tells no outcomes apart.
    private static final int OUTCOME_WIDTH = HOLDER;
    // Programs of 3, 3 and 2 operations have the most runs, 8! / (3! 3! 2!), each with one outcome.
    private static final int OUTCOME_LIMIT = 560;
    private static final int OUTCOME_CELLS = OUTCOME_LIMIT * OUTCOME_WIDTH;
    // A run has at most ROWS states, and the search has THREADS + 1 turns at each of them.
    private static final int TURN_LIMIT = OUTCOME_LIMIT * ROWS * (THREADS + 1);

    private final int[] size = new int[THREADS];
    private final int[] kinds = new int[OPERATION_SLOTS];
    private final int[] operands = new int[OPERATION_SLOTS];

    // Row e is the state after e events, so row 0 is the begin and keeps the begin values.
    private final int[] history = new int[STATE_CELLS];
    private int eventCount = 0;
    private final int[] eventThread = new int[TOTAL_LIMIT];
    private final int[] eventKind = new int[TOTAL_LIMIT];
    private final int[] eventOperand = new int[TOTAL_LIMIT];
    // For each event the set of the events before it, as the sum of 2 to the power i.
    private final int[] mustBefore = new int[TOTAL_LIMIT];
    private final int[] knownBefore = new int[TOTAL_LIMIT];

    private final int[] orderCounts = new int[EVENT_SETS];

    private final int[] path = new int[STATE_CELLS];
    private final int[] nextThread = new int[ROWS];
    private final int[] found = new int[OUTCOME_CELLS];
    private int foundCount = 0;

    public RaceRecorder() {
        for (int m = 0; m < LOCKS; m++) {
            history[HOLDER + m] = NONE;
        }
    }

    public int program(int t, int kind, int x) {
        if (!isThread(t) || !isOperation(kind, x)) {
            return BAD_ARG;
        }
        if (eventCount > 0) {
            return BUSY;
        }
        if (size[t] >= PROGRAM_LIMIT || size[0] + size[1] + size[2] >= TOTAL_LIMIT) {
            return FULL;
        }
        int number = size[t];
        kinds[t * PROGRAM_LIMIT + number] = kind;
        operands[t * PROGRAM_LIMIT + number] = x;
        size[t] = number + 1;
        return number;
    }

    public int begin(int v, int x) {
        if (!isVariable(v)) {
            return BAD_ARG;
        }
        if (eventCount > 0) {
            return BUSY;
        }
        int old = history[v];
        history[v] = x;
        return old;
    }

    public int unprogram(int t) {
        if (!isThread(t)) {
            return BAD_ARG;
        }
        if (eventCount > 0) {
            return BUSY;
        }
        if (size[t] == 0) {
            return NONE;
        }
        size[t]--;
        return size[t];
    }

    public int step(int t) {
        if (!isThread(t)) {
            return BAD_ARG;
        }
        if (!canStep(history, eventCount, t)) {
            return NONE;
        }
        int event = eventCount;
        int operation = nextOperation(history, event, t);
        takeStep(history, event, t);
        eventThread[event] = t;
        eventKind[event] = kinds[operation];
        eventOperand[event] = operands[operation];
        mustBefore[event] = allMustBefore(event);
        knownBefore[event] = allKnownBefore(event);
        eventCount = event + 1;
        return event;
    }

    public int back() {
        if (eventCount == 0) {
            return NONE;
        }
        eventCount--;
        return eventThread[eventCount];
    }

    public void again() {
        eventCount = 0;
    }

    public int events() {
        return eventCount;
    }

    public int thread(int i) {
        return isEvent(i) ? eventThread[i] : NONE;
    }

    public int enabled() {
        return threadsThatCanStep(history, eventCount);
    }

    public int value(int v) {
        return isVariable(v) ? history[eventCount * WIDTH + v] : BAD_ARG;
    }

    public int register(int t) {
        return isThread(t) ? history[eventCount * WIDTH + REGISTER + t] : BAD_ARG;
    }

    public int holder(int m) {
        return isLock(m) ? history[eventCount * WIDTH + HOLDER + m] : BAD_ARG;
    }

    public boolean must(int i, int j) {
        return isEvent(i) && isEvent(j) && contains(mustBefore[j], i);
    }

    public boolean known(int i, int j) {
        return isEvent(i) && isEvent(j) && contains(knownBefore[j], i);
    }

    public int conflicts() {
        int count = 0;
        for (int j = 0; j < eventCount; j++) {
            for (int i = 0; i < j; i++) {
                if (inConflict(i, j)) {
                    count++;
                }
            }
        }
        return count;
    }

    public int needed() {
        int count = 0;
        for (int j = 0; j < eventCount; j++) {
            for (int i = 0; i < j; i++) {
                if (inConflict(i, j) && !mustThroughAnother(i, j)) {
                    count++;
                }
            }
        }
        return count;
    }

    public int orders() {
        int all = (1 << eventCount) - 1;
        orderCounts[0] = 1;
        for (int set = 1; set <= all; set++) {
            orderCounts[set] = ordersOf(set);
        }
        return orderCounts[all];
    }

    public int races() {
        int count = 0;
        for (int j = 0; j < eventCount; j++) {
            count += racesEndingAt(j);
        }
        return count;
    }

    public int firstRace() {
        for (int j = 0; j < eventCount; j++) {
            if (racesEndingAt(j) > 0) {
                return j;
            }
        }
        return NONE;
    }

    public int guard(int v) {
        if (!isVariable(v)) {
            return BAD_ARG;
        }
        int locks = (1 << LOCKS) - 1;
        for (int i = 0; i < eventCount; i++) {
            if (isAccess(eventKind[i]) && eventOperand[i] == v) {
                locks &= locksHeldAt(i);
            }
        }
        return locks;
    }

    public boolean crossed() {
        return lockedUnderTheOther(0) && lockedUnderTheOther(1);
    }

    public int outcomes() {
        findOutcomes(0);
        return foundCount;
    }

    public int deadlocks() {
        findOutcomes(0);
        int count = 0;
        for (int k = 0; k < foundCount; k++) {
            if (hasOperationLeft(k)) {
                count++;
            }
        }
        return count;
    }

    public int greatest(int v) {
        if (!isVariable(v)) {
            return BAD_ARG;
        }
        findOutcomes(0);
        // There is always an outcome, as every run comes to an end.
        int most = found[v];
        for (int k = 1; k < foundCount; k++) {
            int candidate = found[k * OUTCOME_WIDTH + v];
            if (candidate > most) {
                most = candidate;
            }
        }
        return most;
    }

    public int ahead() {
        findOutcomes(eventCount);
        return foundCount;
    }

    private static boolean isThread(int t) {
        return t >= 0 && t < THREADS;
    }

    private static boolean isVariable(int v) {
        return v >= 0 && v < VARIABLES;
    }

    private static boolean isLock(int m) {
        return m >= 0 && m < LOCKS;
    }

    private static boolean isAccess(int kind) {
        return kind == READ || kind == WRITE;
    }

    private static boolean isLocking(int kind) {
        return kind == LOCK || kind == UNLOCK;
    }

    private static boolean isOperation(int kind, int x) {
        if (kind == ADD) {
            return x >= -ADD_LIMIT && x <= ADD_LIMIT;
        }
        if (isAccess(kind)) {
            return isVariable(x);
        }
        return isLocking(kind) && isLock(x);
    }

    private static boolean contains(int set, int element) {
        return (set >> element & 1) == 1;
    }

    private boolean isEvent(int i) {
        return i >= 0 && i < eventCount;
    }

    private static int nextOperation(int[] rows, int row, int t) {
        return t * PROGRAM_LIMIT + rows[row * WIDTH + POSITION + t];
    }

    private boolean canStep(int[] rows, int row, int t) {
        int position = rows[row * WIDTH + POSITION + t];
        if (position >= size[t]) {
            return false;
        }
        int operation = t * PROGRAM_LIMIT + position;
        int kind = kinds[operation];
        if (kind != LOCK && kind != UNLOCK) {
            return true;
        }
        int lockHolder = rows[row * WIDTH + HOLDER + operands[operation]];
        return kind == LOCK ? lockHolder == NONE : lockHolder == t;
    }

    private int threadsThatCanStep(int[] rows, int row) {
        int threads = 0;
        for (int t = 0; t < THREADS; t++) {
            if (canStep(rows, row, t)) {
                threads |= 1 << t;
            }
        }
        return threads;
    }

    /** Makes the row behind the given one the state after a step of thread t, which can step. */
    private void takeStep(int[] rows, int row, int t) {
        int from = row * WIDTH;
        int to = from + WIDTH;
        for (int c = 0; c < WIDTH; c++) {
            rows[to + c] = rows[from + c];
        }
        int operation = nextOperation(rows, row, t);
        int x = operands[operation];
        rows[to + POSITION + t]++;
        switch (kinds[operation]) {
            case READ:
                rows[to + REGISTER + t] = rows[from + x];
                break;
            case WRITE:
                rows[to + x] = rows[from + REGISTER + t];
                break;
            case ADD:
                rows[to + REGISTER + t] += x;
                break;
            case LOCK:
                rows[to + HOLDER + x] = t;
                break;
            default:
                rows[to + HOLDER + x] = NONE;
                break;
        }
    }

    private boolean inConflict(int i, int j) {
        if (eventThread[i] == eventThread[j] || eventOperand[i] != eventOperand[j]) {
            return false;
        }
        int first = eventKind[i];
        int second = eventKind[j];
        if (isAccess(first) && isAccess(second)) {
            return first == WRITE || second == WRITE;
        }
        return isLocking(first) && isLocking(second);
    }

    private boolean isHandOver(int i, int j) {
        return eventKind[i] == UNLOCK && eventKind[j] == LOCK && eventOperand[i] == eventOperand[j];
    }

    private int allMustBefore(int j) {
        int before = 0;
        for (int i = 0; i < j; i++) {
            if (eventThread[i] == eventThread[j] || inConflict(i, j)) {
                before |= mustBefore[i] | 1 << i;
            }
        }
        return before;
    }

    private int allKnownBefore(int j) {
        int before = 0;
        for (int i = 0; i < j; i++) {
            if (eventThread[i] == eventThread[j] || isHandOver(i, j)) {
                before |= knownBefore[i] | 1 << i;
            }
        }
        return before;
    }

    private boolean mustThroughAnother(int i, int j) {
        for (int k = i + 1; k < j; k++) {
            if (contains(mustBefore[k], i) && contains(mustBefore[j], k)) {
                return true;
            }
        }
        return false;
    }

    /** The number of orders of the set's events alone; 0 if one that must come before them is missing. */
    private int ordersOf(int set) {
        int count = 0;
        for (int last = 0; last < eventCount; last++) {
            int rest = set & ~(1 << last);
            if (rest != set && (mustBefore[last] & ~rest) == 0) {
                count += orderCounts[rest];
            }
        }
        return count;
    }

    private int racesEndingAt(int j) {
        int count = 0;
        for (int i = 0; i < j; i++) {
            if (isAccess(eventKind[j]) && inConflict(i, j) && !contains(knownBefore[j], i)) {
                count++;
            }
        }
        return count;
    }

    /** The set of the locks that event i's thread held when it did its operation. */
    private int locksHeldAt(int i) {
        int locks = 0;
        for (int m = 0; m < LOCKS; m++) {
            if (history[i * WIDTH + HOLDER + m] == eventThread[i]) {
                locks |= 1 << m;
            }
        }
        return locks;
    }

    private boolean lockedUnderTheOther(int m) {
        for (int i = 0; i < eventCount; i++) {
            // A lock that is being locked is held by nobody, so any lock held here is the other one.
            if (eventKind[i] == LOCK && eventOperand[i] == m && locksHeldAt(i) != 0) {
                return true;
            }
        }
        return false;
    }

    /** Goes through all runs from the state after the given number of events, deepest steps first. */
    private void findOutcomes(int startRow) {
        for (int c = 0; c < WIDTH; c++) {
            path[c] = history[startRow * WIDTH + c];
        }
        foundCount = 0;
        int depth = 0;
        arriveAt(depth);
        for (int turn = 0; turn < TURN_LIMIT && depth >= 0; turn++) {
            int t = nextThread[depth];
            if (t == THREADS) {
                depth--;
                continue;
            }
            nextThread[depth] = t + 1;
            if (canStep(path, depth, t)) {
                takeStep(path, depth, t);
                depth++;
                arriveAt(depth);
            }
        }
    }

    private void arriveAt(int depth) {
        nextThread[depth] = 0;
        if (threadsThatCanStep(path, depth) == 0 && !isFound(depth)) {
            keepOutcome(depth);
        }
    }

    private boolean isFound(int depth) {
        for (int k = 0; k < foundCount; k++) {
            if (isSameOutcome(k, depth)) {
                return true;
            }
        }
        return false;
    }

    private boolean isSameOutcome(int k, int depth) {
        for (int c = 0; c < OUTCOME_WIDTH; c++) {
            if (found[k * OUTCOME_WIDTH + c] != path[depth * WIDTH + c]) {
                return false;
            }
        }
        return true;
    }

    private void keepOutcome(int depth) {
        for (int c = 0; c < OUTCOME_WIDTH; c++) {
            found[foundCount * OUTCOME_WIDTH + c] = path[depth * WIDTH + c];
        }
        foundCount++;
    }

    private boolean hasOperationLeft(int k) {
        for (int t = 0; t < THREADS; t++) {
            if (found[k * OUTCOME_WIDTH + POSITION + t] < size[t]) {
                return true;
            }
        }
        return false;
    }
}
