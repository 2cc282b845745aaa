// One method for each sentence of the document that names a boundary case, with the sentence above it:
// the value at the boundary, the one below and the one above, the empty and the full object, the least
// and the greatest int. What a refused call must not change is looked at in RefusalTest.
public final class BoundaryTest {
    private static final int READ = 0;
    private static final int WRITE = 1;
    private static final int ADD = 2;
    private static final int LOCK = 3;
    private static final int UNLOCK = 4;

    private static final int BAD_ARG = -1000000001;
    private static final int FULL = -1000000002;
    private static final int BUSY = -1000000003;
    private static final int NONE = -1000000004;

    private static final int LEAST = Integer.MIN_VALUE;
    private static final int MOST = Integer.MAX_VALUE;

    // Neither a thread, nor a variable or lock, nor a kind; some are so if they are cut to fewer bits.
    private static final int[] FAR = {
        LEAST, LEAST + 1, -65536, -256, -32, -3, -2, -1, 5, 6, 8, 32, 256, 257, 65536, 1 << 30, MOST - 1, MOST,
    };
    private static final int[] EXTREME = {LEAST, LEAST + 1, -1, 0, 1, MOST - 1, MOST};

    private static int wrong = 0;

    private static void due(String call, long got, long want) {
        if (got != want) {
            wrong++;
            System.out.println(call + " answered " + got + ", due is " + want);
        }
    }

    private static void due(String call, boolean got, boolean want) {
        due(call, got ? 1 : 0, want ? 1 : 0);
    }

    // Programs are given as kind and operand in turn.
    private static int[] ops(int... program) {
        return program;
    }

    private static RaceRecorder with(int[]... programs) {
        RaceRecorder r = new RaceRecorder();
        for (int t = 0; t < programs.length; t++) {
            for (int i = 0; i < programs[t].length; i += 2) {
                due("set up: program", r.program(t, programs[t][i], programs[t][i + 1]), i / 2);
            }
        }
        return r;
    }

    private static void run(RaceRecorder r, int... threads) {
        for (int t : threads) {
            int number = r.events();
            due("set up: step " + t, r.step(t), number);
        }
    }

    private static RaceRecorder after(int[] threads, int[]... programs) {
        RaceRecorder r = with(programs);
        run(r, threads);
        return r;
    }

    // Programs of the given sizes, of ADD 1 alone.
    private static RaceRecorder sized(int first, int second, int third) {
        RaceRecorder r = new RaceRecorder();
        int[] sizes = {first, second, third};
        for (int t = 0; t < 3; t++) {
            for (int i = 0; i < sizes[t]; i++) {
                due("set up: program", r.program(t, ADD, 1), i);
            }
        }
        return r;
    }

    public static void main(String[] args) {
        use();
        terms();
        changes();
        state();
        order();
        outcomes();
        System.out.println(wrong == 0 ? "all answers are as due" : wrong + " answers are not as due");
        if (wrong != 0) {
            System.exit(1);
        }
    }

    private static void use() {
        stepsUpToTheLastCall();
        changesUpToTheLastCall();
        questionsUpToTheLastCall();
        noCallThrows(new RaceRecorder());
        noCallThrows(sized(3, 3, 2));
        noCallThrows(after(steps(0, 1, 2, 0, 1, 2, 0, 1), ops(ADD, 1, ADD, 1, ADD, 1),
            ops(ADD, 1, ADD, 1, ADD, 1), ops(ADD, 1, ADD, 1)));
        noCallThrows(after(steps(0), ops(LOCK, 0, LOCK, 0), ops(LOCK, 0), ops(UNLOCK, 0)));
    }

    private static void terms() {
        newObjectIsEmpty();
        registerWraps();
        registerDoesNotWrapTooEarly();
        lockIsHeldFromThenOn();
        unlockFreesItsLockAlone();
        variablesAreInts();
        codesAreValuesToo();
    }

    private static void changes() {
        programThread();
        programKind();
        programVariable();
        programLock();
        programAddend();
        programOfFour();
        eightInAll();
        programOrderOfRefusals();
        programNumbers();
        busyFromTheFirstEventOn();
        beginVariable();
        beginValue();
        beginOrderOfRefusals();
        unprogramThread();
        unprogramNone();
        unprogramOrderOfRefusals();
    }

    private static void state() {
        stepThread();
        stepNotEnabled();
        stepNumbers();
        backNone();
        backThread();
        againAtTheBegin();
        againFromTheFullObject();
        eventsFromNoneToEight();
        threadOfNoEvent();
        enabledByOperationsLeft();
        enabledByLocks();
        valueVariable();
        registerThread();
        holderLock();
    }

    private static void order() {
        mustOfNoEvents();
        mustIsLessThan();
        mustRises();
        knownOfNoEvents();
        knownIsLessThan();
        knownByUnlockAndLaterLock();
        conflictOfKinds();
        conflictOfLocks();
        conflictsFromNoneToTheMost();
        neededFromNoneToTheMost();
        ordersFromOneToTheMost();
        racesFromNoneToTheMost();
        racesEndAtTheLock();
        firstRaceNone();
        firstRaceLeast();
        guardVariable();
        guardWithoutUse();
        guardWhenItDid();
        crossedNeedsBothWays();
    }

    private static void outcomes() {
        outcomeOfTheEmptyObject();
        outcomesThatDifferInOneNumber();
        outcomesAtTheMost();
        outcomesOfTheFullObject();
        oneRunOfAll();
        deadlockByOneOperation();
        greatestVariable();
        greatestOfExtremes();
        greatestFromTheBegin();
        aheadFromTheBeginToTheEnd();
    }

    private static int[] steps(int... threads) {
        return threads;
    }

    // ---- What it is

    // "An object is used for at most 512 calls after it has been made"
    private static void stepsUpToTheLastCall() {
        RaceRecorder r = sized(1, 0, 0);
        int calls = 1;
        while (calls < 510) {
            due("512: step", r.step(0), 0);
            due("512: back", r.back(), 0);
            calls += 2;
        }
        due("512: call 512", calls == 511 ? r.step(0) : -1, 0);
    }

    // "An object is used for at most 512 calls after it has been made"
    private static void changesUpToTheLastCall() {
        RaceRecorder r = new RaceRecorder();
        for (int calls = 0; calls < 512; calls += 4) {
            due("512: program", r.program(calls % 3, WRITE, 1), 0);
            due("512: begin", r.begin(1, calls + 4), calls);
            due("512: step", r.step((calls + 1) % 3), NONE);
            due("512: unprogram", r.unprogram(calls % 3), 0);
        }
    }

    // "An object is used for at most 512 calls after it has been made"
    private static void questionsUpToTheLastCall() {
        RaceRecorder r = sized(3, 3, 2);
        for (int calls = 8; calls < 512; calls += 4) {
            due("512: outcomes", r.outcomes(), 1);
            due("512: ahead", r.ahead(), 1);
            due("512: deadlocks", r.deadlocks(), 0);
            due("512: greatest", r.greatest(1), 0);
        }
    }

    // "No call ever throws."
    private static void noCallThrows(RaceRecorder r) {
        try {
            for (int x : EXTREME) {
                callWithOne(r, x);
                for (int y : EXTREME) {
                    r.must(x, y);
                    r.known(x, y);
                    r.begin(x, y);
                }
                r.program(x, ADD, 1);
                r.program(1, x, 1);
                r.program(1, ADD, x);
                r.program(x, x, x);
            }
        } catch (RuntimeException e) {
            due("no call throws: " + e, 1, 0);
        }
    }

    private static void callWithOne(RaceRecorder r, int x) {
        r.thread(x);
        r.value(x);
        r.register(x);
        r.holder(x);
        r.guard(x);
        r.greatest(x);
        r.unprogram(x);
        r.step(x);
        r.step(x);
        r.orders();
        r.needed();
        r.back();
    }

    // ---- Terms

    // "No operation; begin values are 0." "At the BEGIN [..] registers are 0, nobody holds a lock"
    private static void newObjectIsEmpty() {
        RaceRecorder r = new RaceRecorder();
        for (int t = 0; t < 3; t++) {
            due("1: no operation to take off", r.unprogram(t), NONE);
            due("1: no operation to do", r.step(t), NONE);
            due("1: register", r.register(t), 0);
        }
        for (int v = 0; v < 2; v++) {
            due("1: value", r.value(v), 0);
            due("1: holder", r.holder(v), NONE);
            due("1: begin value", r.begin(v, 7), 0);
        }
        due("1: events", r.events(), 0);
        due("1: enabled", r.enabled(), 0);
        due("1: first operation", r.program(0, READ, 0), 0);
    }

    // "2 ADD k: the register grows by k (wrapping)."
    private static void registerWraps() {
        for (int k = 1; k <= 9; k++) {
            due("ADD: greatest and " + k, sumOf(MOST, k), LEAST + k - 1);
            due("ADD: least and " + -k, sumOf(LEAST, -k), MOST - k + 1);
            due("ADD: " + k + " below the greatest", sumOf(MOST - k + 1, k), LEAST);
            due("ADD: " + k + " above the least", sumOf(LEAST + k - 1, -k), MOST);
        }
        RaceRecorder r = after(steps(0, 0, 0, 0), ops(READ, 1, ADD, 9, ADD, 9, WRITE, 0));
        due("ADD: two without wrapping", r.value(0), 18);
        r.again();
        r.begin(1, MOST - 8);
        run(r, 0, 0, 0, 0);
        due("ADD: wrapped by the first of two", r.value(0), LEAST + 9);
        r.back();
        r.back();
        due("ADD: wrapped once", r.register(0), LEAST);
        r.back();
        due("ADD: undone over the wrap", r.register(0), MOST - 8);
    }

    // "2 ADD k: the register grows by k (wrapping)."
    private static void registerDoesNotWrapTooEarly() {
        for (int k = 0; k <= 9; k++) {
            due("ADD: up to the greatest by " + k, sumOf(MOST - k, k), MOST);
            due("ADD: down to the least by " + k, sumOf(LEAST + k, -k), LEAST);
            due("ADD: 0 and " + k, sumOf(0, k), k);
            due("ADD: 0 and " + -k, sumOf(0, -k), -k);
        }
    }

    private static int sumOf(int begin, int k) {
        RaceRecorder r = with(ops(), ops(READ, 1, ADD, k));
        r.begin(1, begin);
        run(r, 1, 1);
        return r.register(1);
    }

    // "3 LOCK m: the lock is HELD by the thread from then on."
    private static void lockIsHeldFromThenOn() {
        for (int m = 0; m < 2; m++) {
            for (int t = 0; t < 3; t++) {
                int other = (t + 1) % 3;
                RaceRecorder r = new RaceRecorder();
                r.program(t, LOCK, m);
                r.program(other, ADD, 1);
                due("LOCK: nobody before", r.holder(m), NONE);
                run(r, t);
                due("LOCK: held at once", r.holder(m), t);
                due("LOCK: the other lock is not", r.holder(1 - m), NONE);
                run(r, other);
                due("LOCK: held behind the end of its program", r.holder(m), t);
            }
        }
    }

    // "4 UNLOCK m: nobody holds it."
    private static void unlockFreesItsLockAlone() {
        for (int m = 0; m < 2; m++) {
            RaceRecorder r = after(steps(2, 2), ops(), ops(LOCK, m), ops(LOCK, 0, LOCK, 1, UNLOCK, m, LOCK, m));
            due("UNLOCK: held before", r.holder(m), 2);
            run(r, 2);
            due("UNLOCK: nobody after", r.holder(m), NONE);
            due("UNLOCK: the other lock stays", r.holder(1 - m), 2);
            run(r, 2);
            due("UNLOCK: locked by itself again", r.holder(m), 2);
            r.back();
            run(r, 1);
            due("UNLOCK: locked by another", r.holder(m), 1);
        }
    }

    // "two shared VARIABLES, 0 and 1, ints" "its REGISTER, an int"
    private static void variablesAreInts() {
        for (int x : EXTREME) {
            for (int v = 0; v < 2; v++) {
                RaceRecorder r = with(ops(), ops(), ops(READ, v, WRITE, 1 - v));
                r.begin(v, x);
                run(r, 2);
                due("int: read", r.register(2), x);
                due("int: not written yet", r.value(1 - v), 0);
                run(r, 2);
                due("int: written", r.value(1 - v), x);
                due("int: kept", r.value(v), x);
                due("int: greatest", r.greatest(1 - v), x);
            }
        }
    }

    // "two shared VARIABLES, 0 and 1, ints": the codes are ints like others there.
    private static void codesAreValuesToo() {
        for (int code : new int[] {BAD_ARG, FULL, BUSY, NONE}) {
            RaceRecorder r = with(ops(READ, 0, WRITE, 1));
            due("code: begin", r.begin(0, code), 0);
            due("code: value", r.value(0), code);
            due("code: enabled", r.enabled(), 1);
            due("code: greatest", r.greatest(0), code);
            run(r, 0, 0);
            due("code: register", r.register(0), code);
            due("code: written", r.value(1), code);
            due("code: outcomes", r.outcomes(), 1);
            r.again();
            due("code: what it was", r.begin(0, 1), code);
            due("code: it was set", r.value(0), 1);
        }
    }

    // ---- Promise 2: program

    // "t [..] out of its range answers BAD_ARG": "three THREADS, 0 to 2"
    private static void programThread() {
        RaceRecorder r = new RaceRecorder();
        due("2: thread -1", r.program(-1, READ, 0), BAD_ARG);
        due("2: thread 0", r.program(0, READ, 0), 0);
        due("2: thread 1", r.program(1, READ, 0), 0);
        due("2: thread 2", r.program(2, READ, 0), 0);
        due("2: thread 3", r.program(3, READ, 0), BAD_ARG);
        for (int t : FAR) {
            due("2: thread " + t, r.program(t, READ, 0), BAD_ARG);
        }
        due("2: each thread has its own operation", r.enabled(), 7);
        for (int t = 0; t < 3; t++) {
            due("2: and no more", r.unprogram(t), 0);
        }
    }

    // "kind 0 to 4": "kind [..] out of its range answers BAD_ARG"
    private static void programKind() {
        RaceRecorder r = new RaceRecorder();
        due("2: kind -1", r.program(0, -1, 0), BAD_ARG);
        due("2: kind 0", r.program(0, 0, 0), 0);
        due("2: kind 1", r.program(0, 1, 0), 1);
        due("2: kind 2", r.program(0, 2, 0), 2);
        due("2: kind 3", r.program(0, 3, 0), 3);
        due("2: kind 4", r.program(1, 4, 0), 0);
        due("2: kind 5", r.program(1, 5, 0), BAD_ARG);
        for (int kind : FAR) {
            due("2: kind " + kind + " of 0", r.program(1, kind, 0), BAD_ARG);
            due("2: kind " + kind + " of 1", r.program(1, kind, 1), BAD_ARG);
        }
        due("2: no wrong kind was appended", r.program(1, 4, 1), 1);
    }

    // "with x the variable": "two shared VARIABLES, 0 and 1"
    private static void programVariable() {
        for (int kind = READ; kind <= WRITE; kind++) {
            programOfTwo(kind);
        }
    }

    // "with x the [..] lock": "two LOCKS, 0 and 1"
    private static void programLock() {
        for (int kind = LOCK; kind <= UNLOCK; kind++) {
            programOfTwo(kind);
        }
    }

    private static void programOfTwo(int kind) {
        RaceRecorder r = new RaceRecorder();
        due("2: -1 of kind " + kind, r.program(2, kind, -1), BAD_ARG);
        due("2: 0 of kind " + kind, r.program(2, kind, 0), 0);
        due("2: 1 of kind " + kind, r.program(2, kind, 1), 1);
        due("2: 2 of kind " + kind, r.program(2, kind, 2), BAD_ARG);
        for (int x : FAR) {
            due("2: " + x + " of kind " + kind, r.program(2, kind, x), BAD_ARG);
        }
        due("2: what ADD takes, of kind " + kind, r.program(2, kind, 9), BAD_ARG);
        due("2: what ADD takes, of kind " + kind, r.program(2, kind, -9), BAD_ARG);
        due("2: nothing else of kind " + kind, r.unprogram(2), 1);
    }

    // "k from -9 to 9"
    private static void programAddend() {
        for (int k = -9; k <= 9; k++) {
            due("2: ADD " + k, new RaceRecorder().program(1, ADD, k), 0);
        }
        RaceRecorder r = new RaceRecorder();
        for (int k : new int[] {LEAST, LEAST + 9, -265, -256, -11, -10, 10, 11, 247, 256, 265, MOST - 9, MOST}) {
            due("2: ADD " + k, r.program(1, ADD, k), BAD_ARG);
        }
        due("2: ADD -9", r.program(1, ADD, -9), 0);
        due("2: ADD 9", r.program(2, ADD, 9), 0);
        run(r, 1, 2);
        due("2: -9 is added", r.register(1), -9);
        due("2: 9 is added", r.register(2), 9);
    }

    // "a PROGRAM of at most 4 OPERATIONS": "the program has 4 operations [..] answers FULL"
    private static void programOfFour() {
        for (int t = 0; t < 3; t++) {
            RaceRecorder r = new RaceRecorder();
            for (int i = 0; i < 4; i++) {
                due("2: operation " + i, r.program(t, ADD, i), i);
            }
            due("2: the fifth", r.program(t, ADD, 1), FULL);
            due("2: the fifth once more", r.program(t, READ, 1), FULL);
            due("2: another program has room", r.program((t + 1) % 3, ADD, 1), 0);
            due("2: 3 are left", r.unprogram(t), 3);
            due("2: a fourth fits again", r.program(t, ADD, 9), 3);
            due("2: a fifth does not", r.program(t, ADD, 1), FULL);
            run(r, t, t, t, t);
            due("2: the four are done", r.register(t), 0 + 1 + 2 + 9);
            due("2: there is no fifth", r.step(t), NONE);
        }
    }

    // "at most 8 in all": "or all have 8 together, answers FULL"
    private static void eightInAll() {
        for (int first = 0; first <= 4; first++) {
            for (int second = 0; second <= 4; second++) {
                int third = 8 - first - second;
                if (third <= 4) {
                    ninthIsRefused(first, second, third);
                }
            }
        }
    }

    private static void ninthIsRefused(int first, int second, int third) {
        RaceRecorder r = sized(first, second, third);
        int[] sizes = {first, second, third};
        for (int t = 0; t < 3; t++) {
            due("2: the ninth", r.program(t, WRITE, 1), FULL);
        }
        for (int from = 0; from < 3; from++) {
            for (int to = 0; to < 3; to++) {
                if (sizes[from] > 0 && (from == to || sizes[to] < 4)) {
                    int number = from == to ? sizes[to] - 1 : sizes[to];
                    due("2: 7 in all", r.unprogram(from), sizes[from] - 1);
                    due("2: the eighth", r.program(to, ADD, 1), number);
                    due("2: the ninth", r.program(to, ADD, 1), FULL);
                    due("2: taken off", r.unprogram(to), number);
                    due("2: put back", r.program(from, ADD, 1), sizes[from] - 1);
                }
            }
        }
        for (int t = 0; t < 3; t++) {
            for (int i = 0; i < sizes[t]; i++) {
                run(r, t);
            }
            due("2: all of its operations are done", r.step(t), NONE);
        }
        due("2: there are 8", r.events(), 8);
    }

    // "Tested in this order: t, kind or x out of its range answers BAD_ARG; BUSY; [..] FULL."
    private static void programOrderOfRefusals() {
        RaceRecorder r = sized(4, 4, 0);
        due("2: FULL alone, 4 operations", r.program(0, ADD, 1), FULL);
        due("2: FULL alone, 8 in all", r.program(2, ADD, 1), FULL);
        wrongArguments(r, "2: BAD_ARG before FULL");
        run(r, 1);
        due("2: BUSY before FULL, 4 operations", r.program(0, ADD, 1), BUSY);
        due("2: BUSY before FULL, 8 in all", r.program(2, ADD, 1), BUSY);
        wrongArguments(r, "2: BAD_ARG before BUSY and FULL");
        RaceRecorder half = sized(2, 2, 0);
        run(half, 1);
        due("2: BUSY alone", half.program(2, ADD, 1), BUSY);
        wrongArguments(half, "2: BAD_ARG before BUSY");
    }

    private static void wrongArguments(RaceRecorder r, String why) {
        due(why + ", t below", r.program(-1, ADD, 1), BAD_ARG);
        due(why + ", t above", r.program(3, ADD, 1), BAD_ARG);
        for (int t = 0; t < 3; t++) {
            due(why + ", kind below", r.program(t, -1, 1), BAD_ARG);
            due(why + ", kind above", r.program(t, 5, 1), BAD_ARG);
            due(why + ", k below", r.program(t, ADD, -10), BAD_ARG);
            due(why + ", k above", r.program(t, ADD, 10), BAD_ARG);
            for (int kind : new int[] {READ, WRITE, LOCK, UNLOCK}) {
                due(why + ", x below", r.program(t, kind, -1), BAD_ARG);
                due(why + ", x above", r.program(t, kind, 2), BAD_ARG);
            }
        }
        due(why + ", all wrong", r.program(LEAST, MOST, LEAST), BAD_ARG);
    }

    // "Otherwise its number in the program." "the operations of a program are numbered from 0 on."
    private static void programNumbers() {
        RaceRecorder r = new RaceRecorder();
        for (int number = 0; number < 2; number++) {
            for (int t = 2; t >= 0; t--) {
                due("27: number of its own program", r.program(t, READ, 0), number);
            }
        }
        due("27: third", r.program(1, READ, 0), 2);
        due("27: fourth", r.program(1, READ, 0), 3);
        for (int left = 3; left >= 0; left--) {
            due("27: taken off", r.unprogram(1), left);
        }
        due("27: from 0 again", r.program(1, READ, 0), 0);
    }

    // "BUSY = -1000000003: There are events."
    private static void busyFromTheFirstEventOn() {
        RaceRecorder r = sized(2, 1, 0);
        for (int way = 0; way < 2; way++) {
            due("BUSY: not without events", r.begin(0, 0), 0);
            due("BUSY: not without events", r.program(2, ADD, 1), 0);
            due("BUSY: not without events", r.unprogram(2), 0);
            int[] threads = {0, 0, 1};
            for (int i = 0; i < 3; i++) {
                run(r, threads[i]);
                isBusy(r, i + 1);
            }
            for (int left = 2; left >= 1; left--) {
                r.back();
                isBusy(r, left);
            }
            if (way == 0) {
                r.back();
            } else {
                r.again();
            }
        }
        due("BUSY: not after again", r.program(2, ADD, 1), 0);
    }

    private static void isBusy(RaceRecorder r, int events) {
        due("BUSY: program with events " + events, r.program(2, ADD, 1), BUSY);
        due("BUSY: begin with events " + events, r.begin(0, 0), BUSY);
        due("BUSY: unprogram with events " + events, r.unprogram(1), BUSY);
    }

    // ---- Promise 3: begin

    // "v not 0 or 1 answers BAD_ARG"
    private static void beginVariable() {
        RaceRecorder r = new RaceRecorder();
        due("3: variable -1", r.begin(-1, 3), BAD_ARG);
        due("3: variable 0", r.begin(0, 4), 0);
        due("3: variable 1", r.begin(1, 5), 0);
        due("3: variable 2", r.begin(2, 6), BAD_ARG);
        for (int v : FAR) {
            due("3: variable " + v, r.begin(v, 7), BAD_ARG);
        }
        due("3: variable 0 was set", r.value(0), 4);
        due("3: variable 1 was set", r.value(1), 5);
        for (int t = 0; t < 3; t++) {
            due("3: no register was set", r.register(t), 0);
        }
    }

    // "Variable v's begin value becomes x. [..] Otherwise what it was.": x is any int.
    private static void beginValue() {
        RaceRecorder r = with(ops(ADD, 6, WRITE, 0, WRITE, 1));
        int[] was = {0, 0};
        for (int x : EXTREME) {
            for (int v = 0; v < 2; v++) {
                due("3: what it was", r.begin(v, x), was[v]);
                was[v] = x;
                due("3: what it is", r.value(v), x);
                due("3: the other one stays", r.value(1 - v), was[1 - v]);
            }
        }
        run(r, 0, 0, 0);
        r.again();
        due("3: the begin value is not what was written", r.begin(0, 1), MOST);
        due("3: the same value once more", r.begin(0, 1), 1);
    }

    // "Tested in this order: v not 0 or 1 answers BAD_ARG; BUSY."
    private static void beginOrderOfRefusals() {
        RaceRecorder r = after(steps(0), ops(ADD, 1));
        due("3: BUSY alone", r.begin(0, 1), BUSY);
        due("3: BUSY alone", r.begin(1, 1), BUSY);
        due("3: BAD_ARG before BUSY", r.begin(-1, 1), BAD_ARG);
        due("3: BAD_ARG before BUSY", r.begin(2, 1), BAD_ARG);
        due("3: BAD_ARG before BUSY", r.begin(LEAST, LEAST), BAD_ARG);
        due("3: BAD_ARG before BUSY", r.begin(MOST, MOST), BAD_ARG);
    }

    // ---- Promise 4: unprogram

    // "t not 0 to 2 answers BAD_ARG"
    private static void unprogramThread() {
        RaceRecorder r = sized(2, 3, 1);
        due("4: thread -1", r.unprogram(-1), BAD_ARG);
        due("4: thread 3", r.unprogram(3), BAD_ARG);
        for (int t : FAR) {
            due("4: thread " + t, r.unprogram(t), BAD_ARG);
        }
        due("4: thread 0", r.unprogram(0), 1);
        due("4: thread 1", r.unprogram(1), 2);
        due("4: thread 2", r.unprogram(2), 0);
    }

    // "NONE if it has none. Otherwise how many it has."
    private static void unprogramNone() {
        for (int t = 0; t < 3; t++) {
            RaceRecorder r = new RaceRecorder();
            due("4: none yet", r.unprogram(t), NONE);
            for (int i = 1; i <= 4; i++) {
                due("4: appended", r.program(t, ADD, i), i - 1);
            }
            due("4: from the full program", r.unprogram(t), 3);
            run(r, t, t, t);
            due("4: the last one was taken, not the first", r.register(t), 1 + 2 + 3);
            r.again();
            due("4: two", r.unprogram(t), 2);
            due("4: one", r.unprogram(t), 1);
            due("4: the last one there is", r.unprogram(t), 0);
            due("4: none left", r.unprogram(t), NONE);
            due("4: none once more", r.unprogram(t), NONE);
            due("4: not below none", r.program(t, ADD, 1), 0);
        }
    }

    // "Tested in this order: t not 0 to 2 answers BAD_ARG; BUSY; NONE if it has none."
    private static void unprogramOrderOfRefusals() {
        RaceRecorder r = sized(1, 0, 0);
        due("4: NONE alone", r.unprogram(1), NONE);
        run(r, 0);
        due("4: BUSY alone", r.unprogram(0), BUSY);
        due("4: BUSY before NONE", r.unprogram(1), BUSY);
        due("4: BAD_ARG before BUSY", r.unprogram(-1), BAD_ARG);
        due("4: BAD_ARG before BUSY", r.unprogram(3), BAD_ARG);
        due("4: BAD_ARG before BUSY", r.unprogram(LEAST), BAD_ARG);
        due("4: BAD_ARG before BUSY", r.unprogram(MOST), BAD_ARG);
    }

    // ---- Promise 5: step

    // "BAD_ARG if t is not 0 to 2"
    private static void stepThread() {
        RaceRecorder r = sized(1, 1, 1);
        due("5: thread -1", r.step(-1), BAD_ARG);
        due("5: thread 3", r.step(3), BAD_ARG);
        for (int t : FAR) {
            due("5: thread " + t, r.step(t), BAD_ARG);
        }
        due("5: thread 0", r.step(0), 0);
        due("5: thread 2", r.step(2), 1);
        due("5: thread 1", r.step(1), 2);
        due("5: BAD_ARG, not NONE", r.step(3), BAD_ARG);
    }

    // "NONE if it is not enabled."
    private static void stepNotEnabled() {
        RaceRecorder r = with(ops(LOCK, 0, LOCK, 0), ops(LOCK, 0), ops(UNLOCK, 0));
        due("5: an unlock of what nobody holds", r.step(2), NONE);
        run(r, 0);
        due("5: a lock that it holds itself", r.step(0), NONE);
        due("5: a lock that another holds", r.step(1), NONE);
        due("5: an unlock of what another holds", r.step(2), NONE);
        due("5: one event", r.events(), 1);
        RaceRecorder wrongLock = after(steps(0), ops(LOCK, 0, UNLOCK, 1));
        due("5: an unlock of the lock that it does not hold", wrongLock.step(0), NONE);
        RaceRecorder empty = sized(0, 1, 0);
        due("5: no operation", empty.step(0), NONE);
        due("5: no operation", empty.step(2), NONE);
        run(empty, 1);
        due("5: no operation left", empty.step(1), NONE);
    }

    // "Otherwise the number of the event.": "numbered from 0 on"
    private static void stepNumbers() {
        RaceRecorder r = sized(4, 0, 4);
        for (int i = 0; i < 8; i++) {
            due("5: event", r.step(i % 2 * 2), i);
        }
        due("5: no ninth", r.step(0), NONE);
        due("5: no ninth", r.step(2), NONE);
        r.back();
        due("5: the last number once more", r.step(2), 7);
        r.again();
        due("5: from 0 again", r.step(2), 0);
    }

    // ---- Promise 6: back

    // "NONE if there is none."
    private static void backNone() {
        due("6: empty object", new RaceRecorder().back(), NONE);
        RaceRecorder r = sized(4, 4, 0);
        due("6: no event yet", r.back(), NONE);
        due("6: not below none", r.events(), 0);
        run(r, 1);
        due("6: the only one", r.back(), 1);
        due("6: none left", r.back(), NONE);
        due("6: none once more", r.back(), NONE);
        due("6: the number is 0 again", r.step(0), 0);
        r.again();
        due("6: none after again", r.back(), NONE);
    }

    // "The last event is undone. [..] Otherwise its thread.": from the full object to the begin
    private static void backThread() {
        RaceRecorder r = with(ops(LOCK, 0, READ, 1, UNLOCK, 0), ops(ADD, 7, WRITE, 0, WRITE, 1), ops(LOCK, 1, UNLOCK, 1));
        r.begin(0, MOST);
        r.begin(1, LEAST);
        int[] threads = {1, 0, 2, 0, 1, 2, 1, 0};
        long[] before = new long[8];
        for (int i = 0; i < 8; i++) {
            before[i] = summary(r);
            run(r, threads[i]);
        }
        for (int i = 7; i >= 0; i--) {
            due("6: thread of event " + i, r.back(), threads[i]);
            due("6: all as before event " + i, summary(r), before[i]);
        }
    }

    private static long summary(RaceRecorder r) {
        long sum = r.events() * 8L + r.enabled();
        for (int i = 0; i < 3; i++) {
            sum = sum * 1000003 + r.register(i);
            sum = sum * 1000003 + r.value(i);
            sum = sum * 1000003 + r.holder(i);
        }
        return sum;
    }

    // ---- Promise 7: again

    // "Everything is as at the begin.": it is so already
    private static void againAtTheBegin() {
        RaceRecorder empty = new RaceRecorder();
        empty.again();
        due("7: empty object", empty.events(), 0);
        due("7: empty object takes an operation", empty.program(0, ADD, 1), 0);
        RaceRecorder r = sized(1, 0, 2);
        r.begin(0, 4);
        r.begin(1, LEAST);
        r.again();
        due("7: begin value", r.value(0), 4);
        due("7: begin value", r.value(1), LEAST);
        due("7: programs", r.enabled(), 5);
        due("7: program", r.unprogram(2), 1);
        due("7: program", r.unprogram(0), 0);
    }

    // "Everything is as at the begin." "all operations are left"
    private static void againFromTheFullObject() {
        RaceRecorder r = with(ops(LOCK, 0, READ, 1, WRITE, 0), ops(ADD, 7, WRITE, 1, ADD, 1), ops(LOCK, 1, ADD, 3));
        r.begin(0, MOST);
        r.begin(1, LEAST);
        long begin = summary(r);
        for (int round = 0; round < 2; round++) {
            run(r, 1, 1, 0, 2, 0, 2, 1, 0);
            due("7: full", r.enabled(), 0);
            r.again();
            due("7: as at the begin", summary(r), begin);
            due("7: no thread of an event", r.thread(0), NONE);
            due("7: no conflict", r.conflicts(), 0);
            due("7: no race", r.races(), 0);
            due("7: no first race", r.firstRace(), NONE);
            due("7: one order", r.orders(), 1);
            due("7: nothing must", r.must(1, 4), false);
            due("7: no use", r.guard(1), 3);
        }
    }

    // ---- Promise 8: events

    // "The number of events.": "at most 8 in all"
    private static void eventsFromNoneToEight() {
        due("8: empty object", new RaceRecorder().events(), 0);
        RaceRecorder r = sized(2, 2, 4);
        for (int i = 0; i < 8; i++) {
            due("8: events", r.events(), i);
            run(r, i < 4 ? 2 : i % 2);
            r.step(-1);
            r.step(3 + i);
        }
        due("8: all", r.events(), 8);
        for (int i = 7; i >= 0; i--) {
            r.back();
            due("8: one less", r.events(), i);
        }
        r.back();
        due("8: not below none", r.events(), 0);
    }

    // ---- Promise 9: thread

    // "The thread of event i; NONE if there is none."
    private static void threadOfNoEvent() {
        RaceRecorder r = sized(3, 3, 2);
        int[] threads = {2, 0, 1, 1, 0, 2, 0, 1};
        for (int count = 0; count <= 8; count++) {
            due("9: event -1 of " + count, r.thread(-1), NONE);
            for (int i = 0; i < count; i++) {
                due("9: event " + i + " of " + count, r.thread(i), threads[i]);
            }
            due("9: event behind the last of " + count, r.thread(count), NONE);
            due("9: event two behind the last of " + count, r.thread(count + 1), NONE);
            if (count < 8) {
                run(r, threads[count]);
            }
        }
        for (int i : new int[] {LEAST, LEAST + 1, -256, -8, 9, 16, 32, 256, MOST - 1, MOST}) {
            due("9: event " + i, r.thread(i), NONE);
        }
        r.back();
        due("9: undone", r.thread(7), NONE);
        due("9: the last one left", r.thread(6), 0);
    }

    // ---- Promise 10: enabled

    // "A thread is ENABLED if it has an operation left"
    private static void enabledByOperationsLeft() {
        due("10: empty object", new RaceRecorder().enabled(), 0);
        for (int set = 0; set < 8; set++) {
            RaceRecorder r = sized(set & 1, set >> 1 & 1, set >> 2 & 1);
            due("10: the set", r.enabled(), set);
        }
        RaceRecorder r = sized(4, 3, 1);
        run(r, 0, 0, 0);
        due("10: one operation left", r.enabled(), 7);
        run(r, 0);
        due("10: none left", r.enabled(), 6);
        run(r, 2);
        due("10: none left", r.enabled(), 2);
        run(r, 1, 1, 1);
        due("10: none left at all", r.enabled(), 0);
        r.back();
        due("10: one left again", r.enabled(), 2);
    }

    // "and this is not a LOCK of a lock that is held (also by itself) or an UNLOCK of one that it does not hold"
    private static void enabledByLocks() {
        for (int m = 0; m < 2; m++) {
            due("10: LOCK of a free lock", with(ops(LOCK, m)).enabled(), 1);
            due("10: UNLOCK of a free lock", with(ops(UNLOCK, m)).enabled(), 0);
            due("10: LOCK of what it holds", after(steps(0), ops(LOCK, m, LOCK, m)).enabled(), 0);
            due("10: UNLOCK of what it holds", after(steps(0), ops(LOCK, m, UNLOCK, m)).enabled(), 1);
            due("10: LOCK of the other one", after(steps(0), ops(LOCK, m, LOCK, 1 - m)).enabled(), 1);
            due("10: UNLOCK of the other one", after(steps(0), ops(LOCK, m, UNLOCK, 1 - m)).enabled(), 0);
            due("10: LOCK of what another holds", after(steps(2), ops(LOCK, m), ops(), ops(LOCK, m)).enabled(), 0);
            due("10: UNLOCK of what another holds", after(steps(2), ops(UNLOCK, m), ops(), ops(LOCK, m)).enabled(), 0);
            due("10: LOCK of what another does not hold",
                after(steps(2), ops(LOCK, 1 - m), ops(), ops(LOCK, m)).enabled(), 1);
            due("10: other kinds under a lock", after(steps(2), ops(READ, m), ops(WRITE, m), ops(LOCK, m, ADD, m)).enabled(), 7);
            due("10: UNLOCK twice", after(steps(0, 0), ops(LOCK, m, UNLOCK, m, UNLOCK, m)).enabled(), 0);
            due("10: LOCK behind UNLOCK", after(steps(0, 0), ops(LOCK, m, UNLOCK, m, LOCK, m), ops(LOCK, m)).enabled(), 3);
        }
    }

    // ---- Promises 11 to 13: value, register, holder

    // "BAD_ARG if v is not 0 or 1."
    private static void valueVariable() {
        RaceRecorder r = new RaceRecorder();
        r.begin(0, 11);
        r.begin(1, 12);
        due("11: variable -1", r.value(-1), BAD_ARG);
        due("11: variable 0", r.value(0), 11);
        due("11: variable 1", r.value(1), 12);
        due("11: variable 2", r.value(2), BAD_ARG);
        for (int v : FAR) {
            due("11: variable " + v, r.value(v), BAD_ARG);
        }
    }

    // "BAD_ARG if t is not 0 to 2."
    private static void registerThread() {
        RaceRecorder r = after(steps(0, 1, 2), ops(ADD, 1), ops(ADD, 2), ops(ADD, 3));
        due("12: thread -1", r.register(-1), BAD_ARG);
        due("12: thread 0", r.register(0), 1);
        due("12: thread 1", r.register(1), 2);
        due("12: thread 2", r.register(2), 3);
        due("12: thread 3", r.register(3), BAD_ARG);
        for (int t : FAR) {
            due("12: thread " + t, r.register(t), BAD_ARG);
        }
    }

    // "NONE if nobody does; BAD_ARG if m is not 0 or 1."
    private static void holderLock() {
        RaceRecorder r = with(ops(LOCK, 1, UNLOCK, 1), ops(), ops(LOCK, 0, UNLOCK, 0));
        due("13: nobody, lock 0", r.holder(0), NONE);
        due("13: nobody, lock 1", r.holder(1), NONE);
        run(r, 0, 2);
        due("13: lock -1", r.holder(-1), BAD_ARG);
        due("13: lock 0", r.holder(0), 2);
        due("13: lock 1", r.holder(1), 0);
        due("13: lock 2", r.holder(2), BAD_ARG);
        for (int m : FAR) {
            due("13: lock " + m, r.holder(m), BAD_ARG);
        }
        run(r, 0, 2);
        due("13: nobody again, lock 0", r.holder(0), NONE);
        due("13: nobody again, lock 1", r.holder(1), NONE);
    }

    // ---- Promise 14: must

    // "false if there are no such events."
    private static void mustOfNoEvents() {
        RaceRecorder r = sized(4, 4, 0);
        due("14: no event at all", r.must(0, 1), false);
        run(r, 0, 0, 0, 0);
        due("14: the last pair there is", r.must(2, 3), true);
        due("14: second behind the last", r.must(3, 4), false);
        due("14: first behind the last", r.must(4, 3), false);
        due("14: both behind the last", r.must(4, 5), false);
        for (int i : FAR) {
            due("14: first " + i, r.must(i, 3), false);
            due("14: second " + i, r.must(0, i), false);
        }
        run(r, 1, 1, 1, 1);
        due("14: the last pair of 8", r.must(6, 7), true);
        due("14: the ninth", r.must(7, 8), false);
        r.back();
        due("14: undone", r.must(6, 7), false);
        due("14: not undone", r.must(5, 6), true);
    }

    // "if i is less than j and there are events [..] n at least 1"
    private static void mustIsLessThan() {
        RaceRecorder r = after(steps(0, 1, 2, 0, 1, 2, 0, 1), ops(WRITE, 0, WRITE, 0, WRITE, 0),
            ops(WRITE, 0, WRITE, 0, WRITE, 0), ops(WRITE, 0, WRITE, 0));
        RaceRecorder apart = after(steps(0, 1, 2), ops(ADD, 1), ops(READ, 0), ops(READ, 0));
        for (int i = 0; i < 8; i++) {
            for (int j = 0; j < 8; j++) {
                due("14: " + i + " before " + j, r.must(i, j), i < j);
                due("14: nothing between events apart", apart.must(i, j), false);
            }
        }
    }

    // "there are events i = e0, e1, .., en = j, rising, [..] of which each and the next are [..] in conflict"
    private static void mustRises() {
        RaceRecorder r = after(steps(0, 1, 2, 2, 1, 0), ops(READ, 0, READ, 1), ops(READ, 1, READ, 0), ops(WRITE, 0, WRITE, 1));
        due("14: not over a later event", r.must(0, 1), false);
        due("14: in conflict", r.must(0, 2), true);
        due("14: not in conflict, but over one that is", r.must(0, 3), true);
        due("14: over the same thread", r.must(1, 4), true);
        due("14: over a conflict and the same thread and a conflict", r.must(0, 5), true);
        due("14: over the conflict of another variable", r.must(1, 5), true);
        due("14: not after all between", r.must(4, 5), false);
        RaceRecorder line = after(steps(0, 0, 1, 1, 2), ops(ADD, 1, WRITE, 0), ops(READ, 0, WRITE, 1), ops(READ, 1, ADD, 1));
        due("14: the longest way, no pair of it but neighbours", line.must(0, 4), true);
        run(line, 2);
        due("14: one further", line.must(0, 5), true);
    }

    // ---- Promise 15: known

    // "false if there are no such events."
    private static void knownOfNoEvents() {
        RaceRecorder r = sized(4, 4, 0);
        due("15: no event at all", r.known(0, 1), false);
        run(r, 0, 0, 0, 0);
        due("15: the last pair there is", r.known(2, 3), true);
        due("15: second behind the last", r.known(3, 4), false);
        due("15: first behind the last", r.known(4, 3), false);
        due("15: both behind the last", r.known(4, 5), false);
        for (int i : FAR) {
            due("15: first " + i, r.known(i, 3), false);
            due("15: second " + i, r.known(0, i), false);
        }
        run(r, 1, 1, 1, 1);
        due("15: the last pair of 8", r.known(6, 7), true);
        due("15: the ninth", r.known(7, 8), false);
        r.back();
        due("15: undone", r.known(6, 7), false);
    }

    // "in the same way": i is less than j, n at least 1
    private static void knownIsLessThan() {
        RaceRecorder r = after(steps(0, 0, 1, 1, 2, 2, 0, 0), ops(LOCK, 1, UNLOCK, 1, LOCK, 1, UNLOCK, 1),
            ops(LOCK, 1, UNLOCK, 1), ops(LOCK, 1, UNLOCK, 1));
        for (int i = 0; i < 8; i++) {
            for (int j = 0; j < 8; j++) {
                due("15: " + i + " before " + j, r.known(i, j), i < j);
            }
        }
    }

    // "with unlocks and later locks of the same lock in place of pairs in conflict"
    private static void knownByUnlockAndLaterLock() {
        RaceRecorder r = after(steps(0, 0, 0, 0, 1, 1, 2), ops(LOCK, 0, WRITE, 0, UNLOCK, 0, ADD, 1),
            ops(LOCK, 0, WRITE, 0, UNLOCK, 0), ops(WRITE, 0));
        due("15: unlock and lock", r.known(2, 4), true);
        due("15: before the unlock, behind the lock", r.known(1, 5), true);
        due("15: behind the unlock", r.known(3, 4), false);
        due("15: in conflict, no lock", r.known(1, 6), false);
        due("15: in conflict, one under the lock", r.known(5, 6), false);
        due("15: but it must", r.must(5, 6), true);
        for (int m = 0; m < 2; m++) {
            RaceRecorder other = after(steps(0, 0, 1, 2), ops(LOCK, m, UNLOCK, m), ops(LOCK, 1 - m), ops(LOCK, m));
            due("15: of the other lock", other.known(1, 2), false);
            due("15: of the same lock", other.known(1, 3), true);
        }
        RaceRecorder mixed = after(steps(0, 0, 1, 2), ops(LOCK, 0, UNLOCK, 0), ops(WRITE, 0), ops(READ, 0));
        due("15: an unlock and a write of the same number", mixed.known(1, 2), false);
        due("15: an unlock and a read of the same number", mixed.known(1, 3), false);
    }

    // ---- Promise 16: conflicts

    // "Two events of different threads are in CONFLICT if both are reads or writes of the same variable and one is a write"
    private static void conflictOfKinds() {
        int[] kinds = {READ, WRITE, ADD, LOCK};
        for (int first : kinds) {
            for (int second : kinds) {
                for (int x = 0; x < 4; x++) {
                    boolean sameLock = first == LOCK && second == LOCK && x / 2 == x % 2;
                    if (!sameLock) {
                        conflictOfPair(first, x / 2, second, x % 2);
                    }
                }
            }
        }
    }

    private static void conflictOfPair(int first, int x, int second, int y) {
        boolean variables = first <= WRITE && second <= WRITE;
        boolean conflict = variables && x == y && (first == WRITE || second == WRITE);
        String pair = "16: " + first + " of " + x + " and " + second + " of " + y;
        for (int t = 0; t < 3; t++) {
            for (int u = 0; u < 3; u++) {
                RaceRecorder r = new RaceRecorder();
                r.program(t, first, x);
                r.program(u, second, y);
                run(r, t, u);
                boolean different = t != u;
                due(pair, r.conflicts(), conflict && different ? 1 : 0);
                due(pair + ", must", r.must(0, 1), conflict || !different);
                due(pair + ", known", r.known(0, 1), !different);
                due(pair + ", needed", r.needed(), conflict && different ? 1 : 0);
                due(pair + ", races", r.races(), conflict && different ? 1 : 0);
                due(pair + ", orders", r.orders(), conflict || !different ? 1 : 2);
            }
        }
    }

    // "or both are locks or unlocks of the same lock"
    private static void conflictOfLocks() {
        for (int m = 0; m < 2; m++) {
            RaceRecorder r = after(steps(0, 0), ops(LOCK, m, UNLOCK, m), ops(LOCK, m, UNLOCK, m), ops(LOCK, 1 - m, UNLOCK, 1 - m));
            due("16: of the same thread", r.conflicts(), 0);
            run(r, 2, 2);
            due("16: of the other lock", r.conflicts(), 0);
            run(r, 1);
            due("16: a lock and both", r.conflicts(), 2);
            run(r, 1);
            due("16: an unlock and both", r.conflicts(), 4);
        }
        RaceRecorder mixed = after(steps(0, 1, 2, 2), ops(LOCK, 1), ops(WRITE, 1), ops(ADD, 1, READ, 0));
        due("16: a lock and a variable of the same number", mixed.conflicts(), 0);
    }

    // "The number of pairs of events in conflict."
    private static void conflictsFromNoneToTheMost() {
        due("16: empty object", new RaceRecorder().conflicts(), 0);
        RaceRecorder r = writes();
        int[] most = {0, 0, 1, 3, 5, 8, 12, 16, 21};
        for (int count = 0; count < 8; count++) {
            due("16: writes " + count, r.conflicts(), most[count]);
            run(r, count % 3);
        }
        due("16: eight writes of one variable", r.conflicts(), most[8]);
        r.back();
        due("16: one undone", r.conflicts(), most[7]);
    }

    private static RaceRecorder writes() {
        return with(ops(WRITE, 1, WRITE, 1, WRITE, 1), ops(WRITE, 1, WRITE, 1, WRITE, 1), ops(WRITE, 1, WRITE, 1));
    }

    // ---- Promise 17: needed

    // "is NEEDED if there is no event k such that i must come before k and k before j"
    private static void neededFromNoneToTheMost() {
        due("17: empty object", new RaceRecorder().needed(), 0);
        RaceRecorder r = writes();
        for (int count = 0; count < 8; count++) {
            due("17: neighbours of " + count, r.needed(), count == 0 ? 0 : count - 1);
            run(r, count % 3);
        }
        due("17: neighbours of 8", r.needed(), 7);
        RaceRecorder own = after(steps(0, 0, 1), ops(WRITE, 0, ADD, 1), ops(WRITE, 0));
        due("17: one of the same thread between, not before the second", own.needed(), 1);
        RaceRecorder second = after(steps(0, 1, 1), ops(WRITE, 0), ops(ADD, 1, WRITE, 0));
        due("17: one of the second thread between, not behind the first", second.needed(), 1);
        RaceRecorder between = after(steps(0, 1, 1), ops(WRITE, 0), ops(READ, 0, READ, 0));
        due("17: one between", between.needed(), 1);
        RaceRecorder chain = after(steps(0, 0, 1, 1), ops(WRITE, 0, WRITE, 1), ops(READ, 1, READ, 0));
        due("17: a chain of two between", chain.needed(), 1);
        RaceRecorder across = after(steps(0, 1, 0, 1), ops(WRITE, 0, WRITE, 1), ops(READ, 0, READ, 1));
        due("17: two pairs side by side", across.needed(), 2);
        RaceRecorder most = after(steps(0, 0, 1, 1, 2, 2), ops(READ, 0, READ, 1), ops(READ, 0, READ, 1), ops(WRITE, 0, WRITE, 1));
        due("17: reads and the first write behind them", most.needed(), 4);
        due("17: all that are in conflict", most.conflicts(), 4);
    }

    // ---- Promise 18: orders

    // "The number of orders of all events"
    private static void ordersFromOneToTheMost() {
        due("18: empty object", new RaceRecorder().orders(), 1);
        due("18: operations, but no event", sized(3, 3, 2).orders(), 1);
        int[][] sizes = {{1, 0, 0, 1}, {4, 0, 0, 1}, {1, 1, 0, 2}, {1, 1, 1, 6}, {4, 4, 0, 70}, {0, 4, 4, 70},
            {4, 3, 1, 280}, {4, 2, 2, 420}, {3, 3, 2, 560}, {3, 2, 3, 560}, {2, 3, 3, 560}};
        for (int[] s : sizes) {
            RaceRecorder r = sized(s[0], s[1], s[2]);
            for (int t = 0; t < 3; t++) {
                for (int i = 0; i < s[t]; i++) {
                    run(r, t);
                }
            }
            due("18: of sizes " + s[0] + ", " + s[1] + ", " + s[2], r.orders(), s[3]);
            due("18: asked once more", r.orders(), s[3]);
        }
        RaceRecorder line = after(steps(0, 1, 2, 0, 1, 2, 0, 1), ops(WRITE, 1, WRITE, 1, WRITE, 1),
            ops(WRITE, 1, WRITE, 1, WRITE, 1), ops(WRITE, 1, WRITE, 1));
        due("18: all in one line", line.orders(), 1);
        RaceRecorder chain = after(steps(0, 0, 1, 1), ops(ADD, 1, WRITE, 0), ops(READ, 0, ADD, 1), ops(ADD, 1));
        due("18: a line over two threads", chain.orders(), 1);
        run(chain, 2);
        due("18: one apart from a line of 4", chain.orders(), 5);
    }

    // ---- Promises 19 and 20: races, firstRace

    // "The number of races."
    private static void racesFromNoneToTheMost() {
        due("19: empty object", new RaceRecorder().races(), 0);
        RaceRecorder r = writes();
        int[] most = {0, 0, 1, 3, 5, 8, 12, 16, 21};
        for (int count = 0; count < 8; count++) {
            due("19: writes " + count, r.races(), most[count]);
            run(r, count % 3);
        }
        due("19: eight writes of one variable", r.races(), most[8]);
        r.back();
        due("19: one undone", r.races(), most[7]);
    }

    // "in conflict, not of locks, such that i is not known before j"
    private static void racesEndAtTheLock() {
        for (int m = 0; m < 2; m++) {
            RaceRecorder r = after(steps(0, 0, 0, 1, 1, 1), ops(LOCK, m, WRITE, 1, UNLOCK, m), ops(LOCK, m, READ, 1, UNLOCK, m), ops(READ, 1));
            due("19: both under the lock", r.races(), 0);
            run(r, 2);
            due("19: a read outside, and the write", r.races(), 1);
        }
        RaceRecorder outside = after(steps(0, 0, 0, 1, 1), ops(LOCK, 0, UNLOCK, 0, WRITE, 1), ops(LOCK, 0, READ, 1));
        due("19: written right behind the unlock", outside.races(), 1);
        RaceRecorder early = after(steps(0, 0, 0, 1, 1), ops(LOCK, 0, WRITE, 1, UNLOCK, 0), ops(READ, 1, LOCK, 0));
        due("19: read right before the lock", early.races(), 1);
        RaceRecorder other = after(steps(0, 0, 0, 1, 1), ops(LOCK, 0, WRITE, 1, UNLOCK, 0), ops(LOCK, 1, READ, 1));
        due("19: under the other lock", other.races(), 1);
        RaceRecorder locks = after(steps(0, 0, 1, 1, 2, 2), ops(LOCK, 0, UNLOCK, 0), ops(LOCK, 0, UNLOCK, 0), ops(LOCK, 0, UNLOCK, 0));
        due("19: locks alone", locks.races(), 0);
        due("19: in conflict all the same", locks.conflicts(), 12);
        due("20: locks alone", locks.firstRace(), NONE);
    }

    // "NONE if there is none."
    private static void firstRaceNone() {
        due("20: empty object", new RaceRecorder().firstRace(), NONE);
        RaceRecorder r = with(ops(WRITE, 0, READ, 0), ops(READ, 1, READ, 0), ops(READ, 1));
        due("20: no event", r.firstRace(), NONE);
        run(r, 0);
        due("20: one event", r.firstRace(), NONE);
        run(r, 0, 1, 2);
        due("20: no conflict", r.firstRace(), NONE);
        run(r, 1);
        due("20: the last event", r.firstRace(), 4);
        r.back();
        due("20: undone", r.firstRace(), NONE);
    }

    // "The least j that is the second event of a race"
    private static void firstRaceLeast() {
        RaceRecorder first = after(steps(0, 1), ops(WRITE, 0), ops(READ, 0));
        due("20: the least that can be", first.firstRace(), 1);
        RaceRecorder r = after(steps(0, 1, 2, 2, 1), ops(WRITE, 0), ops(WRITE, 1, READ, 0), ops(READ, 1, READ, 0));
        due("20: the least second, not that of the first event", r.firstRace(), 2);
        due("20: of three", r.races(), 3);
        RaceRecorder last = after(steps(0, 0, 0, 0, 1, 1, 1, 1), ops(ADD, 1, ADD, 1, ADD, 1, WRITE, 0), ops(ADD, 1, ADD, 1, ADD, 1, WRITE, 0));
        due("20: the greatest that can be", last.firstRace(), 7);
    }

    // ---- Promise 21: guard

    // "BAD_ARG if v is not 0 or 1."
    private static void guardVariable() {
        RaceRecorder r = after(steps(1, 1, 1), ops(), ops(LOCK, 1, READ, 1, READ, 0));
        due("21: variable -1", r.guard(-1), BAD_ARG);
        due("21: variable 0", r.guard(0), 2);
        due("21: variable 1", r.guard(1), 2);
        due("21: variable 2", r.guard(2), BAD_ARG);
        for (int v : FAR) {
            due("21: variable " + v, r.guard(v), BAD_ARG);
            due("21: variable " + v + " of the empty object", new RaceRecorder().guard(v), BAD_ARG);
        }
    }

    // "3 if there is none."
    private static void guardWithoutUse() {
        due("21: empty object", new RaceRecorder().guard(0), 3);
        due("21: empty object", new RaceRecorder().guard(1), 3);
        RaceRecorder r = after(steps(0, 1, 1, 1), ops(ADD, 1, READ, 0), ops(ADD, 0, LOCK, 0, UNLOCK, 0));
        due("21: other kinds of the same number do not count", r.guard(0), 3);
        due("21: other kinds of the same number do not count", r.guard(1), 3);
        run(r, 0);
        due("21: the first use, without a lock", r.guard(0), 0);
        due("21: the other variable is not used", r.guard(1), 3);
        r.back();
        due("21: not used again", r.guard(0), 3);
    }

    // "that were held by the thread of every event so far that reads or writes v, when it did"
    private static void guardWhenItDid() {
        for (int kind = READ; kind <= WRITE; kind++) {
            for (int m = 0; m < 2; m++) {
                due("21: right behind the lock", after(steps(0, 0), ops(LOCK, m, kind, 0)).guard(0), 1 << m);
                due("21: right before the lock", after(steps(0, 0), ops(kind, 0, LOCK, m)).guard(0), 0);
                due("21: right before the unlock", after(steps(0, 0, 0), ops(LOCK, m, kind, 0, UNLOCK, m)).guard(0), 1 << m);
                due("21: right behind the unlock", after(steps(0, 0, 0), ops(LOCK, m, UNLOCK, m, kind, 0)).guard(0), 0);
                due("21: held by another", after(steps(1, 0), ops(kind, 0), ops(LOCK, m)).guard(0), 0);
            }
            due("21: both", after(steps(2, 2, 2), ops(), ops(), ops(LOCK, 0, LOCK, 1, kind, 1)).guard(1), 3);
        }
        RaceRecorder r = after(steps(0, 0, 0), ops(LOCK, 0, LOCK, 1, READ, 0, UNLOCK, 1), ops(LOCK, 1, READ, 0), ops(WRITE, 0));
        due("21: both, by one event", r.guard(0), 3);
        run(r, 0, 1, 1);
        due("21: one of both, by two", r.guard(0), 2);
        run(r, 2);
        due("21: none, by three", r.guard(0), 0);
        r.back();
        r.back();
        due("21: both again", r.guard(0), 3);
    }

    // ---- Promise 22: crossed

    // "one lock was locked by a thread that held the other one, and the other way round"
    private static void crossedNeedsBothWays() {
        due("22: empty object", new RaceRecorder().crossed(), false);
        for (int m = 0; m < 2; m++) {
            int n = 1 - m;
            RaceRecorder r = with(ops(LOCK, m, LOCK, n, UNLOCK, m, UNLOCK, n), ops(LOCK, n, LOCK, m, UNLOCK, n));
            due("22: no event", r.crossed(), false);
            run(r, 0, 0, 0, 0, 1);
            due("22: one way", r.crossed(), false);
            run(r, 1);
            due("22: and the other way round", r.crossed(), true);
            run(r, 1);
            due("22: in the events so far", r.crossed(), true);
            r.back();
            r.back();
            due("22: undone", r.crossed(), false);
            RaceRecorder free = after(steps(0, 0, 0, 1, 1), ops(LOCK, m, UNLOCK, m, LOCK, n), ops(LOCK, m, UNLOCK, m, LOCK, n));
            due("22: the other one is free by then", free.crossed(), false);
            RaceRecorder others = after(steps(0, 1), ops(LOCK, m), ops(LOCK, n), ops(LOCK, m));
            due("22: the other one is held by another", others.crossed(), false);
            RaceRecorder half = after(steps(0, 0, 0, 0, 1, 1, 1, 1), ops(LOCK, m, LOCK, n, UNLOCK, n, UNLOCK, m),
                ops(LOCK, n, UNLOCK, n, LOCK, m, LOCK, n));
            due("22: twice the same way", half.crossed(), false);
        }
    }

    // ---- Promises 23 to 26: outcomes, deadlocks, greatest, ahead

    // "An OUTCOME is what variables and registers are when no thread is enabled": no step is needed
    private static void outcomeOfTheEmptyObject() {
        RaceRecorder r = new RaceRecorder();
        due("23: empty object", r.outcomes(), 1);
        due("24: empty object", r.deadlocks(), 0);
        due("26: empty object", r.ahead(), 1);
        due("25: empty object", r.greatest(0), 0);
        r.begin(0, LEAST);
        r.begin(1, MOST);
        due("25: empty object with a begin value", r.greatest(0), LEAST);
        due("25: empty object with a begin value", r.greatest(1), MOST);
        RaceRecorder stuck = with(ops(UNLOCK, 0), ops(UNLOCK, 1), ops(UNLOCK, 0));
        due("23: no step can be done", stuck.outcomes(), 1);
        due("24: no step can be done", stuck.deadlocks(), 1);
        due("26: no step can be done", stuck.ahead(), 1);
    }

    // "Two outcomes are the same if variables, registers and numbers of operations left are."
    private static void outcomesThatDifferInOneNumber() {
        for (int v = 0; v < 2; v++) {
            due("23: in a variable", with(ops(ADD, 1, WRITE, v), ops(ADD, 2, WRITE, v)).outcomes(), 2);
            due("23: in no variable", with(ops(ADD, 2, WRITE, v), ops(ADD, 2, WRITE, v)).outcomes(), 1);
        }
        for (int t = 0; t < 3; t++) {
            RaceRecorder r = new RaceRecorder();
            r.program(t, READ, 1);
            r.program((t + 1) % 3, ADD, 1);
            r.program((t + 1) % 3, WRITE, 1);
            due("23: in the register of thread " + t, r.outcomes(), 2);
            r.begin(1, 1);
            due("23: in no register", r.outcomes(), 1);
            RaceRecorder left = new RaceRecorder();
            left.program(t, LOCK, 1);
            left.program((t + 1) % 3, LOCK, 1);
            due("23: in the operations left", left.outcomes(), 2);
            due("24: in the operations left", left.deadlocks(), 2);
        }
        RaceRecorder far = with(ops(READ, 0), ops(READ, 1, WRITE, 0));
        far.begin(0, LEAST);
        far.begin(1, MOST);
        due("23: between the least and the greatest int", far.outcomes(), 2);
        far.begin(1, LEAST);
        due("23: both the least int", far.outcomes(), 1);
    }

    // The most outcomes that a search for such programs found; another program counts the same.
    private static void outcomesAtTheMost() {
        RaceRecorder r = with(ops(READ, 1, ADD, 6, WRITE, 1), ops(ADD, -5, WRITE, 1, READ, 1), ops(READ, 1, WRITE, 1));
        due("23: the most", r.outcomes(), 26);
        due("24: none of them", r.deadlocks(), 0);
        due("26: all of them", r.ahead(), 26);
        RaceRecorder stuck = with(ops(ADD, 8, WRITE, 1, LOCK, 1), ops(WRITE, 1, READ, 1, LOCK, 1), ops(READ, 1, LOCK, 1));
        due("23: the most deadlocks", stuck.outcomes(), 18);
        due("24: the most deadlocks", stuck.deadlocks(), 18);
    }

    // "after any steps that could be done from the begin": 8 operations in all shapes
    private static void outcomesOfTheFullObject() {
        int[][] sizes = {{3, 3, 2}, {3, 2, 3}, {2, 3, 3}, {4, 2, 2}, {4, 4, 0}, {0, 4, 4}};
        for (int[] s : sizes) {
            for (int first = 0; first < 3; first++) {
                int second = (first + 1) % 3;
                if (s[first] >= 2 && s[second] >= 1) {
                    fullObjectWithOneChoice(s, first, second);
                }
            }
        }
    }

    // The first thread writes last of all its operations, the second one reads last of all of its own.
    private static void fullObjectWithOneChoice(int[] sizes, int writer, int reader) {
        RaceRecorder r = new RaceRecorder();
        for (int t = 0; t < 3; t++) {
            for (int i = 0; i < sizes[t]; i++) {
                boolean last = i == sizes[t] - 1;
                if (last && t == writer) {
                    r.program(t, WRITE, 0);
                } else if (last && t == reader) {
                    r.program(t, READ, 0);
                } else {
                    r.program(t, ADD, 1);
                }
            }
        }
        due("23: before and behind the write", r.outcomes(), 2);
        due("24: all operations are done", r.deadlocks(), 0);
        due("25: written", r.greatest(0), sizes[writer] - 1);
        due("23: once more", r.outcomes(), 2);
    }

    // "after any steps that could be done from the begin": one of 560 runs alone comes to 27, and in each
    // order of the threads it is another one, so that none may be left out.
    private static void oneRunOfAll() {
        int[][] orders = {{0, 1, 2}, {0, 2, 1}, {1, 0, 2}, {1, 2, 0}, {2, 0, 1}, {2, 1, 0}};
        for (int[] order : orders) {
            int[][] programs = new int[3][];
            programs[order[0]] = ops(ADD, 9, WRITE, 0);
            programs[order[1]] = ops(READ, 0, ADD, 9, WRITE, 0);
            programs[order[2]] = ops(READ, 0, ADD, 9, WRITE, 1);
            RaceRecorder r = with(programs);
            due("23: with the one run", r.outcomes(), 5);
            due("25: by the one run", r.greatest(1), 27);
            due("25: by some runs", r.greatest(0), 18);
            run(r, order[0], order[0], order[1], order[1]);
            due("26: before the second write or behind it", r.ahead(), 2);
            run(r, order[1]);
            due("26: the one run alone", r.ahead(), 1);
        }
    }

    // "it is a DEADLOCK if a thread has an operation left"
    private static void deadlockByOneOperation() {
        for (int t = 0; t < 3; t++) {
            RaceRecorder r = sized(t == 0 ? 0 : 2, t == 1 ? 0 : 2, t == 2 ? 0 : 2);
            due("24: all done", r.deadlocks(), 0);
            r.program(t, LOCK, 0);
            due("24: a lock held at the end is none", r.deadlocks(), 0);
            r.program(t, LOCK, 0);
            due("24: one operation left", r.deadlocks(), 1);
            due("23: the only outcome", r.outcomes(), 1);
            r.unprogram(t);
            r.program(t, UNLOCK, 0);
            due("24: none left", r.deadlocks(), 0);
            r.program(t, UNLOCK, 0);
            due("24: one unlock too many", r.deadlocks(), 1);
        }
    }

    // "BAD_ARG if v is not 0 or 1."
    private static void greatestVariable() {
        RaceRecorder r = with(ops(ADD, 5, WRITE, 0), ops(ADD, 6, WRITE, 1));
        due("25: variable -1", r.greatest(-1), BAD_ARG);
        due("25: variable 0", r.greatest(0), 5);
        due("25: variable 1", r.greatest(1), 6);
        due("25: variable 2", r.greatest(2), BAD_ARG);
        for (int v : FAR) {
            due("25: variable " + v, r.greatest(v), BAD_ARG);
            due("25: variable " + v + " of the empty object", new RaceRecorder().greatest(v), BAD_ARG);
        }
    }

    // "The greatest value of variable v in an outcome"
    private static void greatestOfExtremes() {
        RaceRecorder r = with(ops(READ, 1, WRITE, 0), ops(READ, 1, ADD, 1, WRITE, 0));
        r.begin(1, MOST);
        due("25: the greatest int, not the wrapped one", r.greatest(0), MOST);
        r.begin(1, MOST - 1);
        due("25: the greatest int by one", r.greatest(0), MOST);
        r.begin(1, LEAST);
        due("25: near the least int", r.greatest(0), LEAST + 1);
        r.begin(1, -2);
        due("25: below 0", r.greatest(0), -1);
        r.begin(0, 100);
        due("25: the begin value is overwritten", r.greatest(0), -1);
        RaceRecorder wrapped = with(ops(READ, 1, ADD, 1, WRITE, 0));
        wrapped.begin(1, MOST);
        due("25: the least int alone", wrapped.greatest(0), LEAST);
        RaceRecorder stuck = with(ops(LOCK, 0, LOCK, 1, ADD, 3, WRITE, 0), ops(LOCK, 1, ADD, 9, WRITE, 0, LOCK, 0));
        due("25: in a deadlock too", stuck.greatest(0), 9);
    }

    // "The greatest value of variable v in an outcome": "after any steps that could be done from the begin"
    private static void greatestFromTheBegin() {
        RaceRecorder r = with(ops(ADD, 5, WRITE, 1), ops(ADD, 7, WRITE, 1), ops(ADD, 6, WRITE, 1, ADD, -9, WRITE, 0));
        due("25: of three", r.greatest(1), 7);
        due("25: of one, below 0", r.greatest(0), -3);
        run(r, 1, 1, 0, 0);
        due("25: the greatest is overwritten", r.value(1), 5);
        due("25: from the begin all the same", r.greatest(1), 7);
        run(r, 2, 2, 2, 2);
        due("25: at the end", r.value(1), 6);
        due("25: at the end, from the begin", r.greatest(1), 7);
        due("25: at the end, from the begin", r.greatest(0), -3);
    }

    // "The number of different outcomes that any steps from now on can come to."
    private static void aheadFromTheBeginToTheEnd() {
        RaceRecorder r = with(ops(READ, 0), ops(ADD, 1, WRITE, 0), ops(ADD, 2, WRITE, 0));
        due("26: from the begin all", r.ahead(), r.outcomes());
        due("26: what is read and what is last", r.ahead(), 6);
        run(r, 1, 2);
        due("26: nothing is decided yet", r.ahead(), 6);
        run(r, 1);
        due("26: the last write is", r.ahead(), 2);
        run(r, 2);
        due("26: all but the same", r.ahead(), 1);
        run(r, 0);
        due("26: at the end", r.ahead(), 1);
        due("23: from the begin all the same", r.outcomes(), 6);
        for (int left = 4; left >= 0; left--) {
            r.back();
        }
        due("26: from the begin again", r.ahead(), 6);
        RaceRecorder stuck = with(ops(LOCK, 0, LOCK, 1), ops(LOCK, 1, LOCK, 0));
        due("26: three ways", stuck.ahead(), 3);
        run(stuck, 0);
        due("26: two ways", stuck.ahead(), 2);
        run(stuck, 1);
        due("26: in the deadlock", stuck.ahead(), 1);
        due("24: all ways end in one", stuck.deadlocks(), 3);
    }
}
