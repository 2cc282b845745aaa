// One method for each promise of the document: ordinary inputs, the edges it names, wrong inputs.
public final class PromiseTest {
    private static final int READ = 0;
    private static final int WRITE = 1;
    private static final int ADD = 2;
    private static final int LOCK = 3;
    private static final int UNLOCK = 4;

    private static final int BAD_ARG = -1000000001;
    private static final int FULL = -1000000002;
    private static final int BUSY = -1000000003;
    private static final int NONE = -1000000004;

    private static int wrong = 0;

    private static void due(String call, long got, long want) {
        if (got != want) {
            wrong++;
            System.out.println(call + " answered " + got + ", due is " + want);
        }
    }

    private static void due(String call, boolean got, boolean want) {
        due(call, got ? 1 : 0, want ? 1 : 0);
    }

    // Programs are given as kind and operand in turn.
    private static RaceRecorder with(int[] first, int[] second, int[] third) {
        RaceRecorder r = new RaceRecorder();
        append(r, 0, first);
        append(r, 1, second);
        append(r, 2, third);
        return r;
    }

    private static void append(RaceRecorder r, int t, int[] program) {
        for (int i = 0; i < program.length; i += 2) {
            due("set up: program", r.program(t, program[i], program[i + 1]), i / 2);
        }
    }

    private static int[] ops(int... program) {
        return program;
    }

    private static void run(RaceRecorder r, int... threads) {
        for (int t : threads) {
            int number = r.events();
            due("set up: step " + t, r.step(t), number);
        }
    }

    public static void main(String[] args) {
        constants();
        newObject();
        program();
        programLimits();
        begin();
        unprogram();
        step();
        stepOfLocks();
        back();
        again();
        events();
        thread();
        enabled();
        value();
        register();
        holder();
        must();
        known();
        conflicts();
        needed();
        orders();
        races();
        firstRace();
        guard();
        crossed();
        outcomes();
        changedOutcomes();
        deadlocks();
        greatest();
        ahead();
        questionsChangeNothing();
        System.out.println(wrong == 0 ? "all answers are as due" : wrong + " answers are not as due");
        if (wrong != 0) {
            System.exit(1);
        }
    }

    private static void constants() {
        due("BAD_ARG", RaceRecorder.BAD_ARG, BAD_ARG);
        due("FULL", RaceRecorder.FULL, FULL);
        due("BUSY", RaceRecorder.BUSY, BUSY);
        due("NONE", RaceRecorder.NONE, NONE);
    }

    // Promise 1
    private static void newObject() {
        RaceRecorder r = new RaceRecorder();
        for (int t = 0; t < 3; t++) {
            due("1: unprogram", r.unprogram(t), NONE);
            due("1: register", r.register(t), 0);
        }
        for (int v = 0; v < 2; v++) {
            due("1: value", r.value(v), 0);
            due("1: holder", r.holder(v), NONE);
            due("1: greatest", r.greatest(v), 0);
            due("1: begin", r.begin(v, 4), 0);
        }
        due("1: events", r.events(), 0);
        due("1: enabled", r.enabled(), 0);
        due("1: outcomes", r.outcomes(), 1);
    }

    // Promises 2 and 27
    private static void program() {
        RaceRecorder r = new RaceRecorder();
        int[] wrongCalls = {
            -1, READ, 0, 3, READ, 0, Integer.MIN_VALUE, READ, 0, Integer.MAX_VALUE, READ, 0,
            0, -1, 0, 0, 5, 0, 0, Integer.MIN_VALUE, 0, 0, Integer.MAX_VALUE, 0,
            0, READ, -1, 0, READ, 2, 0, WRITE, -1, 0, WRITE, 2, 0, ADD, -10, 0, ADD, 10,
            0, LOCK, -1, 0, LOCK, 2, 0, UNLOCK, -1, 0, UNLOCK, 2,
            0, READ, Integer.MIN_VALUE, 0, ADD, Integer.MIN_VALUE, 0, LOCK, Integer.MAX_VALUE,
        };
        for (int i = 0; i < wrongCalls.length; i += 3) {
            due("2: wrong program " + i / 3,
                r.program(wrongCalls[i], wrongCalls[i + 1], wrongCalls[i + 2]), BAD_ARG);
        }
        due("2: nothing was appended", r.unprogram(0), NONE);
        due("2: first", r.program(2, ADD, -9), 0);
        due("2: second", r.program(2, ADD, 9), 1);
        due("2: third", r.program(2, READ, 1), 2);
        due("2: other thread", r.program(0, UNLOCK, 1), 0);
        due("2: after unprogram", r.unprogram(2), 2);
        due("2: same number again", r.program(2, WRITE, 1), 2);
        run(r, 2);
        due("2: register is -9", r.register(2), -9);
        due("2: busy", r.program(1, READ, 0), BUSY);
        due("2: bad before busy", r.program(3, READ, 0), BAD_ARG);
        due("2: bad kind before busy", r.program(0, 5, 0), BAD_ARG);
        due("2: bad operand before busy", r.program(0, READ, 2), BAD_ARG);
        due("2: back", r.back(), 2);
        due("2: busy changed nothing", r.unprogram(1), NONE);
    }

    private static void programLimits() {
        RaceRecorder r = new RaceRecorder();
        for (int i = 0; i < 4; i++) {
            due("2: number", r.program(1, ADD, 1), i);
        }
        due("2: fifth", r.program(1, ADD, 1), FULL);
        due("2: bad before full", r.program(1, ADD, 10), BAD_ARG);
        for (int i = 0; i < 3; i++) {
            due("2: number", r.program(0, ADD, 1), i);
        }
        due("2: eighth", r.program(2, ADD, 1), 0);
        due("2: ninth", r.program(2, ADD, 1), FULL);
        due("2: ninth elsewhere", r.program(0, ADD, 1), FULL);
        run(r, 1);
        due("2: busy before full", r.program(1, ADD, 1), BUSY);
        r.again();
        due("2: room again", r.unprogram(1), 3);
        due("2: room is used", r.program(2, ADD, 1), 1);
        due("2: full again", r.program(1, ADD, 1), FULL);
        run(r, 1, 1, 1);
        due("2: full changed nothing", r.step(1), NONE);
    }

    // Promise 3
    private static void begin() {
        RaceRecorder r = with(ops(READ, 1, WRITE, 0), ops(), ops());
        due("3: negative variable", r.begin(-1, 1), BAD_ARG);
        due("3: third variable", r.begin(2, 1), BAD_ARG);
        due("3: first", r.begin(1, Integer.MIN_VALUE), 0);
        due("3: second", r.begin(1, 6), Integer.MIN_VALUE);
        due("3: other variable", r.begin(0, 2), 0);
        due("3: value is there at once", r.value(1), 6);
        run(r, 0, 0);
        due("3: used by a read", r.value(0), 6);
        due("3: busy", r.begin(0, 3), BUSY);
        due("3: bad before busy", r.begin(2, 3), BAD_ARG);
        due("3: busy changed nothing", r.value(0), 6);
        r.again();
        due("3: the begin value, not the last one", r.begin(0, 3), 2);
    }

    // Promise 4
    private static void unprogram() {
        RaceRecorder r = with(ops(ADD, 1, ADD, 2), ops(ADD, 5), ops());
        due("4: negative thread", r.unprogram(-1), BAD_ARG);
        due("4: fourth thread", r.unprogram(3), BAD_ARG);
        due("4: none", r.unprogram(2), NONE);
        due("4: one left", r.unprogram(0), 1);
        run(r, 0);
        due("4: the last one was taken", r.register(0), 1);
        due("4: no more to do", r.step(0), NONE);
        due("4: busy", r.unprogram(0), BUSY);
        due("4: busy before none", r.unprogram(2), BUSY);
        due("4: bad before busy", r.unprogram(3), BAD_ARG);
        r.again();
        due("4: none left", r.unprogram(0), 0);
        due("4: none again", r.unprogram(0), NONE);
        due("4: other thread stays", r.enabled(), 2);
    }

    // Promise 5
    private static void step() {
        RaceRecorder r = with(ops(ADD, 9, WRITE, 1), ops(READ, 1, ADD, -4, WRITE, 0), ops());
        due("5: negative thread", r.step(-1), BAD_ARG);
        due("5: fourth thread", r.step(3), BAD_ARG);
        due("5: no operation", r.step(2), NONE);
        due("5: first", r.step(0), 0);
        due("5: second", r.step(0), 1);
        due("5: no operation left", r.step(0), NONE);
        due("5: refused is no event", r.events(), 2);
        due("5: third", r.step(1), 2);
        due("5: read", r.register(1), 9);
        due("5: fourth", r.step(1), 3);
        due("5: add", r.register(1), 5);
        due("5: write not done", r.value(0), 0);
        due("5: fifth", r.step(1), 4);
        due("5: write", r.value(0), 5);
        due("5: the register stays", r.register(1), 5);
        due("5: the other variable stays", r.value(1), 9);
        RaceRecorder wrapping = with(ops(READ, 0, ADD, 1), ops(READ, 1, ADD, -9), ops());
        wrapping.begin(0, Integer.MAX_VALUE);
        wrapping.begin(1, Integer.MIN_VALUE);
        run(wrapping, 0, 0, 1, 1);
        due("5: wraps up", wrapping.register(0), Integer.MIN_VALUE);
        due("5: wraps down", wrapping.register(1), Integer.MAX_VALUE - 8);
    }

    private static void stepOfLocks() {
        RaceRecorder r = with(ops(LOCK, 1, LOCK, 1), ops(UNLOCK, 1), ops(LOCK, 1, UNLOCK, 1));
        due("5: unlock of a free lock", r.step(1), NONE);
        run(r, 0);
        due("5: lock held by itself", r.step(0), NONE);
        due("5: lock held by another", r.step(2), NONE);
        due("5: unlock of another's lock", r.step(1), NONE);
        r.again();
        run(r, 2, 2, 0);
        due("5: locked after unlock", r.holder(1), 0);
        due("5: the other lock is free", r.holder(0), NONE);
    }

    // Promise 6
    private static void back() {
        RaceRecorder r = with(ops(LOCK, 0, READ, 0, ADD, 3), ops(ADD, 2, WRITE, 0), ops());
        r.begin(0, 8);
        due("6: none", r.back(), NONE);
        run(r, 0, 0, 1, 1, 0);
        due("6: add undone", r.back(), 0);
        due("6: register before", r.register(0), 8);
        due("6: write undone", r.back(), 1);
        due("6: value before", r.value(0), 8);
        due("6: register stays", r.register(1), 2);
        due("6: add undone", r.back(), 1);
        due("6: register before", r.register(1), 0);
        due("6: read undone", r.back(), 0);
        due("6: register before", r.register(0), 0);
        due("6: lock still held", r.holder(0), 0);
        due("6: lock undone", r.back(), 0);
        due("6: lock free", r.holder(0), NONE);
        due("6: none again", r.back(), NONE);
        due("6: no event", r.events(), 0);
        run(r, 1, 1, 0, 0);
        due("6: another way", r.register(0), 2);
        RaceRecorder unlock = with(ops(LOCK, 0, UNLOCK, 0), ops(), ops());
        run(unlock, 0, 0);
        due("6: unlock undone", unlock.back(), 0);
        due("6: held again", unlock.holder(0), 0);
    }

    // Promise 7
    private static void again() {
        RaceRecorder r = with(ops(LOCK, 1, ADD, 3, WRITE, 1), ops(ADD, 1), ops());
        r.begin(1, 5);
        run(r, 0, 0, 1, 0);
        r.again();
        due("7: events", r.events(), 0);
        due("7: value", r.value(1), 5);
        due("7: register", r.register(0), 0);
        due("7: other register", r.register(1), 0);
        due("7: holder", r.holder(1), NONE);
        due("7: enabled", r.enabled(), 3);
        due("7: back", r.back(), NONE);
        due("7: guard", r.guard(1), 3);
        due("7: the programs stay", r.program(0, ADD, 1), 3);
        r.again();
        due("7: twice", r.events(), 0);
    }

    // Promise 8
    private static void events() {
        RaceRecorder r = with(ops(ADD, 1, ADD, 1, ADD, 1, ADD, 1), ops(ADD, 1, ADD, 1, ADD, 1, ADD, 1), ops());
        int[] threads = {0, 1, 1, 0, 0, 1, 0, 1};
        for (int i = 0; i < 8; i++) {
            due("8: events", r.events(), i);
            run(r, threads[i]);
        }
        due("8: all", r.events(), 8);
        due("8: no more", r.step(0), NONE);
        r.back();
        due("8: one less", r.events(), 7);
    }

    // Promise 9
    private static void thread() {
        RaceRecorder r = with(ops(ADD, 1), ops(ADD, 1), ops(ADD, 1));
        due("9: none at the begin", r.thread(0), NONE);
        run(r, 2, 0, 1);
        due("9: first", r.thread(0), 2);
        due("9: second", r.thread(1), 0);
        due("9: third", r.thread(2), 1);
        due("9: behind the last", r.thread(3), NONE);
        due("9: far behind", r.thread(Integer.MAX_VALUE), NONE);
        due("9: negative", r.thread(-1), NONE);
        due("9: most negative", r.thread(Integer.MIN_VALUE), NONE);
        r.back();
        due("9: undone", r.thread(2), NONE);
    }

    // Promise 10
    private static void enabled() {
        RaceRecorder r = with(ops(LOCK, 0, UNLOCK, 0), ops(LOCK, 0, LOCK, 0), ops(UNLOCK, 0));
        due("10: begin", r.enabled(), 3);
        run(r, 0);
        due("10: lock held", r.enabled(), 1);
        run(r, 0);
        due("10: lock free", r.enabled(), 2);
        run(r, 1);
        due("10: held by itself, unlock by another", r.enabled(), 0);
        due("10: third thread", with(ops(), ops(), ops(WRITE, 0)).enabled(), 4);
        due("10: all", with(ops(READ, 0), ops(ADD, 0), ops(LOCK, 1)).enabled(), 7);
    }

    // Promise 11
    private static void value() {
        RaceRecorder r = with(ops(ADD, 3, WRITE, 0), ops(ADD, 4, WRITE, 1), ops());
        run(r, 0, 0, 1, 1);
        due("11: first", r.value(0), 3);
        due("11: second", r.value(1), 4);
        due("11: negative", r.value(-1), BAD_ARG);
        due("11: third", r.value(2), BAD_ARG);
        due("11: far", r.value(Integer.MAX_VALUE), BAD_ARG);
    }

    // Promise 12
    private static void register() {
        RaceRecorder r = with(ops(ADD, 3), ops(ADD, -4), ops(ADD, 5));
        run(r, 0, 1, 2);
        due("12: first", r.register(0), 3);
        due("12: second", r.register(1), -4);
        due("12: third", r.register(2), 5);
        due("12: negative", r.register(-1), BAD_ARG);
        due("12: fourth", r.register(3), BAD_ARG);
        due("12: far", r.register(Integer.MIN_VALUE), BAD_ARG);
    }

    // Promise 13
    private static void holder() {
        RaceRecorder r = with(ops(), ops(LOCK, 1, UNLOCK, 1), ops(LOCK, 0));
        run(r, 1, 2);
        due("13: first", r.holder(0), 2);
        due("13: second", r.holder(1), 1);
        run(r, 1);
        due("13: nobody", r.holder(1), NONE);
        due("13: negative", r.holder(-1), BAD_ARG);
        due("13: third", r.holder(2), BAD_ARG);
        due("13: far", r.holder(Integer.MAX_VALUE), BAD_ARG);
    }

    // Promise 14
    private static void must() {
        // 0: write 0, 1: add, 2: read 0, 3: write 1, 4: read 1, 5: read 0
        RaceRecorder r = with(ops(ADD, 0, WRITE, 1), ops(WRITE, 0), ops(READ, 0, READ, 1, READ, 0));
        run(r, 1, 0, 2, 0, 2, 2);
        due("14: write and read", r.must(0, 2), true);
        due("14: same thread", r.must(1, 3), true);
        due("14: add has no conflict", r.must(0, 1), false);
        due("14: other variable", r.must(0, 3), false);
        due("14: chain", r.must(1, 4), true);
        due("14: chain to the end", r.must(1, 5), true);
        due("14: backwards", r.must(2, 0), false);
        due("14: itself", r.must(2, 2), false);
        due("14: no such second", r.must(0, 6), false);
        due("14: no such first", r.must(-1, 2), false);
        due("14: far", r.must(Integer.MIN_VALUE, Integer.MAX_VALUE), false);
        due("14: by 32 too many", r.must(32, 2), false);
        RaceRecorder reads = with(ops(READ, 0), ops(READ, 0), ops(WRITE, 0));
        run(reads, 0, 1, 2);
        due("14: two reads", reads.must(0, 1), false);
        due("14: read and write", reads.must(0, 2), true);
        reads.back();
        due("14: undone", reads.must(0, 2), false);
        RaceRecorder locks = with(ops(LOCK, 0, UNLOCK, 0), ops(LOCK, 0), ops(LOCK, 1));
        run(locks, 0, 0, 1, 2);
        due("14: lock and lock", locks.must(0, 2), true);
        due("14: unlock and lock", locks.must(1, 2), true);
        due("14: other lock", locks.must(0, 3), false);
        RaceRecorder mixed = with(ops(LOCK, 0), ops(WRITE, 0), ops());
        run(mixed, 0, 1);
        due("14: a lock is no variable", mixed.must(0, 1), false);
    }

    // Promise 15
    private static void known() {
        // 0: lock, 1: write, 2: unlock, 3: write by another, 4: lock, 5: read
        RaceRecorder r = with(ops(LOCK, 0, WRITE, 0, UNLOCK, 0), ops(LOCK, 0, READ, 0), ops(WRITE, 0));
        run(r, 0, 0, 0, 2, 1, 1);
        due("15: same thread", r.known(0, 2), true);
        due("15: unlock and lock", r.known(2, 4), true);
        due("15: chain over the lock", r.known(1, 5), true);
        due("15: lock and lock over the unlock", r.known(0, 4), true);
        due("15: conflict alone", r.known(1, 3), false);
        due("15: conflict alone, later", r.known(3, 5), false);
        due("15: must is more", r.must(3, 5), true);
        due("15: backwards", r.known(4, 2), false);
        due("15: itself", r.known(1, 1), false);
        due("15: no such second", r.known(0, 6), false);
        due("15: no such first", r.known(-1, 2), false);
        due("15: far", r.known(Integer.MAX_VALUE, Integer.MIN_VALUE), false);
        RaceRecorder other = with(ops(LOCK, 0, UNLOCK, 0), ops(LOCK, 1), ops(LOCK, 0));
        run(other, 0, 0, 1, 2);
        due("15: other lock", other.known(1, 2), false);
        due("15: same lock", other.known(1, 3), true);
        // Thread 0 unlocks lock 0 before thread 1 unlocks lock 0, thread 2 locks it then.
        RaceRecorder unlocks = with(ops(LOCK, 0, UNLOCK, 0), ops(LOCK, 0, UNLOCK, 0), ops(LOCK, 0));
        run(unlocks, 0, 0, 1, 1, 2);
        due("15: through another holder", unlocks.known(1, 4), true);
    }

    // Promise 16
    private static void conflicts() {
        RaceRecorder r = with(ops(READ, 0, WRITE, 0), ops(WRITE, 0, WRITE, 1), ops(READ, 0, READ, 1));
        due("16: begin", r.conflicts(), 0);
        run(r, 0, 2);
        due("16: two reads", r.conflicts(), 0);
        run(r, 1);
        due("16: write behind two reads", r.conflicts(), 2);
        run(r, 0);
        due("16: own read does not count", r.conflicts(), 4);
        run(r, 2);
        due("16: other variable", r.conflicts(), 4);
        run(r, 1);
        due("16: write of the other variable", r.conflicts(), 5);
        RaceRecorder locks = with(ops(LOCK, 0, UNLOCK, 0), ops(LOCK, 0, UNLOCK, 0), ops(LOCK, 1, READ, 0));
        run(locks, 0, 0, 1, 1, 2, 2);
        due("16: locks and unlocks", locks.conflicts(), 4);
    }

    // Promise 17
    private static void needed() {
        RaceRecorder r = with(ops(WRITE, 0), ops(WRITE, 0), ops(WRITE, 0));
        due("17: begin", r.needed(), 0);
        run(r, 0, 1, 2);
        due("17: three writes", r.needed(), 2);
        due("17: of three conflicts", r.conflicts(), 3);
        RaceRecorder same = with(ops(WRITE, 0, WRITE, 0), ops(READ, 0, READ, 0), ops());
        run(same, 0, 0, 1, 1);
        due("17: through the same thread", same.needed(), 1);
        RaceRecorder locks = with(ops(LOCK, 0, UNLOCK, 0), ops(LOCK, 0, UNLOCK, 0), ops());
        run(locks, 0, 0, 1, 1);
        due("17: only unlock and lock", locks.needed(), 1);
        RaceRecorder apart = with(ops(READ, 0), ops(READ, 0), ops(WRITE, 0));
        run(apart, 0, 1, 2);
        due("17: two reads and a write", apart.needed(), 2);
    }

    // Promise 18
    private static void orders() {
        RaceRecorder r = with(ops(ADD, 1, ADD, 1, ADD, 1), ops(ADD, 1, ADD, 1, ADD, 1), ops(ADD, 1, ADD, 1));
        due("18: begin", r.orders(), 1);
        run(r, 0);
        due("18: one", r.orders(), 1);
        run(r, 1);
        due("18: two", r.orders(), 2);
        run(r, 2);
        due("18: three", r.orders(), 6);
        run(r, 0, 0, 1, 1, 2);
        due("18: the most", r.orders(), 560);
        r.back();
        due("18: one less", r.orders(), 140);
        RaceRecorder writes = with(ops(WRITE, 0, WRITE, 0), ops(WRITE, 0), ops(ADD, 1));
        run(writes, 0, 1, 0, 2);
        due("18: a line and one apart", writes.orders(), 4);
        RaceRecorder locks = with(ops(LOCK, 0, UNLOCK, 0), ops(LOCK, 0, UNLOCK, 0), ops());
        run(locks, 0, 0, 1, 1);
        due("18: locks", locks.orders(), 1);
    }

    // Promise 19
    private static void races() {
        RaceRecorder r = with(ops(WRITE, 0), ops(READ, 0), ops(READ, 0));
        due("19: begin", r.races(), 0);
        run(r, 0, 1, 2);
        due("19: two reads behind a write", r.races(), 2);
        RaceRecorder guarded = with(ops(LOCK, 0, WRITE, 0, UNLOCK, 0), ops(LOCK, 0, WRITE, 0, UNLOCK, 0), ops());
        run(guarded, 0, 0, 0, 1, 1, 1);
        due("19: guarded", guarded.races(), 0);
        RaceRecorder apart = with(ops(LOCK, 0, WRITE, 0, UNLOCK, 0), ops(LOCK, 1, WRITE, 0, UNLOCK, 1), ops());
        run(apart, 0, 0, 0, 1, 1, 1);
        due("19: another lock", apart.races(), 1);
        RaceRecorder must = with(ops(WRITE, 0), ops(READ, 0, WRITE, 1), ops(READ, 1, WRITE, 0));
        run(must, 0, 1, 1, 2, 2);
        due("19: must is not enough", must.races(), 4);
        RaceRecorder locks = with(ops(LOCK, 0, UNLOCK, 0), ops(LOCK, 0, UNLOCK, 0), ops());
        run(locks, 0, 0, 1, 1);
        due("19: locks do not race", locks.races(), 0);
        RaceRecorder unguarded = with(ops(LOCK, 0, UNLOCK, 0, WRITE, 0), ops(LOCK, 0, WRITE, 0), ops());
        run(unguarded, 0, 0, 0, 1, 1);
        due("19: written behind the unlock", unguarded.races(), 1);
    }

    // Promise 20
    private static void firstRace() {
        RaceRecorder r = with(ops(WRITE, 1, WRITE, 0), ops(WRITE, 0), ops(READ, 1));
        due("20: begin", r.firstRace(), NONE);
        run(r, 0, 0);
        due("20: same thread", r.firstRace(), NONE);
        run(r, 1);
        due("20: writes", r.firstRace(), 2);
        run(r, 2);
        due("20: the least second event", r.firstRace(), 2);
        r.back();
        r.back();
        due("20: undone", r.firstRace(), NONE);
        RaceRecorder late = with(ops(LOCK, 0, WRITE, 0, UNLOCK, 0), ops(LOCK, 0, READ, 0), ops(READ, 0));
        run(late, 0, 0, 0, 1, 1, 2);
        due("20: behind a known pair", late.firstRace(), 5);
    }

    // Promise 21
    private static void guard() {
        RaceRecorder r = with(ops(LOCK, 0, LOCK, 1, WRITE, 0, READ, 1), ops(READ, 0, LOCK, 0), ops());
        due("21: begin", r.guard(0), 3);
        run(r, 0, 0, 0, 0);
        due("21: both locks", r.guard(0), 3);
        run(r, 1);
        due("21: another's locks do not count", r.guard(0), 0);
        due("21: other variable", r.guard(1), 3);
        r.back();
        due("21: undone", r.guard(0), 3);
        due("21: negative", r.guard(-1), BAD_ARG);
        due("21: third", r.guard(2), BAD_ARG);
        RaceRecorder one = with(ops(LOCK, 1, READ, 0, UNLOCK, 1), ops(LOCK, 0, LOCK, 1, WRITE, 0, UNLOCK, 0), ops(READ, 1));
        run(one, 0, 0, 0, 1, 1, 1, 1, 2);
        due("21: the lock held at both", one.guard(0), 2);
        due("21: no lock", one.guard(1), 0);
        RaceRecorder late = with(ops(READ, 0, LOCK, 0), ops(LOCK, 1, UNLOCK, 1, READ, 1), ops());
        run(late, 0, 0, 1, 1, 1);
        due("21: locked later", late.guard(0), 0);
        due("21: unlocked before", late.guard(1), 0);
        RaceRecorder first = with(ops(LOCK, 0, READ, 0), ops(LOCK, 1, READ, 1), ops());
        run(first, 0, 0, 1, 1);
        due("21: lock 0 alone", first.guard(0), 1);
        due("21: lock 1 alone", first.guard(1), 2);
    }

    // Promise 22
    private static void crossed() {
        RaceRecorder r = with(ops(LOCK, 0, LOCK, 1, UNLOCK, 0, UNLOCK, 1), ops(LOCK, 1, LOCK, 0), ops());
        due("22: begin", r.crossed(), false);
        run(r, 0, 0, 0, 0, 1);
        due("22: one way", r.crossed(), false);
        run(r, 1);
        due("22: both ways", r.crossed(), true);
        r.back();
        due("22: undone", r.crossed(), false);
        RaceRecorder alike = with(ops(LOCK, 0, LOCK, 1, UNLOCK, 1, UNLOCK, 0), ops(LOCK, 0, LOCK, 1), ops());
        run(alike, 0, 0, 0, 0, 1, 1);
        due("22: twice the same way", alike.crossed(), false);
        RaceRecorder single = with(ops(LOCK, 0, LOCK, 1, UNLOCK, 0, LOCK, 0), ops(), ops());
        run(single, 0, 0, 0);
        due("22: one thread, one way", single.crossed(), false);
        run(single, 0);
        due("22: one thread, both ways", single.crossed(), true);
        RaceRecorder apart = with(ops(LOCK, 0), ops(LOCK, 1), ops());
        run(apart, 0, 1);
        due("22: the other one held by another", apart.crossed(), false);
    }

    // Promise 23
    private static void outcomes() {
        RaceRecorder r = with(ops(READ, 0, ADD, 1, WRITE, 0), ops(READ, 0, ADD, 1, WRITE, 0), ops());
        due("23: lost update", r.outcomes(), 3);
        run(r, 0, 0, 0);
        due("23: from the begin", r.outcomes(), 3);
        due("23: by registers", with(ops(READ, 0), ops(ADD, 1, WRITE, 0), ops()).outcomes(), 2);
        due("23: by variables", with(ops(ADD, 1, WRITE, 0), ops(ADD, 2, WRITE, 0), ops()).outcomes(), 2);
        due("23: the same by two ways", with(ops(ADD, 1, WRITE, 0), ops(ADD, 1, WRITE, 0), ops()).outcomes(), 1);
        // Who gets the lock is told by the operations left alone.
        due("23: by operations left", with(ops(LOCK, 0), ops(LOCK, 0), ops()).outcomes(), 2);
        due("23: three", with(ops(LOCK, 0), ops(LOCK, 0), ops(LOCK, 0)).outcomes(), 3);
        due("23: none enabled", with(ops(UNLOCK, 0), ops(), ops()).outcomes(), 1);
        due("23: guarded", with(ops(LOCK, 0, ADD, 1, UNLOCK, 0), ops(LOCK, 0, ADD, 1, UNLOCK, 0), ops()).outcomes(), 1);
    }

    private static void changedOutcomes() {
        RaceRecorder r = with(ops(READ, 0, READ, 1, WRITE, 0), ops(ADD, 1, WRITE, 0, WRITE, 1), ops());
        // The reader ends with 1, or with 0 and its write of 0 is the first or the last one.
        due("23: read and written across", r.outcomes(), 3);
        due("23: the same each time", r.outcomes(), 3);
        r.begin(1, 1);
        due("23: nothing but 1 is written", r.outcomes(), 1);
        r.begin(1, 5);
        due("23: another begin value", r.outcomes(), 3);
        r.unprogram(0);
        due("23: the last read is of 5 or 1", r.outcomes(), 2);
        r.unprogram(0);
        r.begin(0, 100);
        due("23: the last read is of 100 or 1", r.outcomes(), 2);
        r.unprogram(0);
        due("23: one thread", r.outcomes(), 1);
    }

    // Promise 24
    private static void deadlocks() {
        RaceRecorder r = with(ops(LOCK, 0, LOCK, 1, UNLOCK, 1, UNLOCK, 0), ops(LOCK, 1, LOCK, 0, UNLOCK, 0, UNLOCK, 1), ops());
        due("24: crossed locks", r.deadlocks(), 1);
        due("24: of two outcomes", r.outcomes(), 2);
        run(r, 0, 0);
        due("24: from the begin", r.deadlocks(), 1);
        due("24: no operation", new RaceRecorder().deadlocks(), 0);
        due("24: none", with(ops(ADD, 1), ops(READ, 0), ops()).deadlocks(), 0);
        due("24: locked twice", with(ops(LOCK, 0, LOCK, 0), ops(), ops()).deadlocks(), 1);
        due("24: never unlocked", with(ops(LOCK, 0), ops(LOCK, 0), ops()).deadlocks(), 2);
        due("24: unlock of a free lock", with(ops(), ops(), ops(UNLOCK, 1)).deadlocks(), 1);
        due("24: held at the end", with(ops(LOCK, 0), ops(), ops()).deadlocks(), 0);
        due("24: different ones", with(ops(UNLOCK, 0), ops(READ, 0), ops(ADD, 1, WRITE, 0)).deadlocks(), 2);
    }

    // Promise 25
    private static void greatest() {
        RaceRecorder r = with(ops(READ, 0, ADD, 1, WRITE, 0), ops(READ, 0, ADD, 1, WRITE, 0), ops());
        r.begin(0, 4);
        due("25: both", r.greatest(0), 6);
        due("25: never written", r.greatest(1), 0);
        due("25: negative", r.greatest(-1), BAD_ARG);
        due("25: third", r.greatest(2), BAD_ARG);
        run(r, 0, 1);
        due("25: from the begin", r.greatest(0), 6);
        RaceRecorder low = with(ops(ADD, -5, WRITE, 1), ops(ADD, -3, WRITE, 1), ops());
        due("25: below 0", low.greatest(1), -3);
        low.begin(0, Integer.MIN_VALUE);
        due("25: the least int", low.greatest(0), Integer.MIN_VALUE);
        RaceRecorder passing = with(ops(ADD, 9, WRITE, 0, ADD, -8, WRITE, 0), ops(), ops());
        due("25: only at the end", passing.greatest(0), 1);
        RaceRecorder stuck = with(ops(LOCK, 0, ADD, 7, WRITE, 0, LOCK, 0), ops(), ops());
        due("25: in a deadlock", stuck.greatest(0), 7);
    }

    // Promise 26
    private static void ahead() {
        RaceRecorder r = with(ops(READ, 0, ADD, 1, WRITE, 0), ops(READ, 0, ADD, 1, WRITE, 0), ops());
        due("26: begin", r.ahead(), 3);
        run(r, 0);
        due("26: one read", r.ahead(), 2);
        run(r, 1);
        due("26: both read", r.ahead(), 1);
        r.back();
        due("26: undone", r.ahead(), 2);
        run(r, 0, 0);
        due("26: written", r.ahead(), 1);
        run(r, 1, 1, 1);
        due("26: at the end", r.ahead(), 1);
        due("26: all stay", r.outcomes(), 3);
        due("26: no operation", new RaceRecorder().ahead(), 1);
        RaceRecorder locks = with(ops(LOCK, 0), ops(LOCK, 0), ops(LOCK, 0));
        due("26: three", locks.ahead(), 3);
        run(locks, 1);
        due("26: one got it", locks.ahead(), 1);
        locks.again();
        due("26: again", locks.ahead(), 3);
    }

    private static void questionsChangeNothing() {
        RaceRecorder r = with(ops(LOCK, 0, READ, 0, ADD, 1, WRITE, 0), ops(READ, 0, WRITE, 1), ops(LOCK, 0, WRITE, 0));
        r.begin(0, 3);
        run(r, 0, 1, 0, 0);
        int before = state(r);
        r.outcomes();
        r.deadlocks();
        r.greatest(0);
        r.ahead();
        r.orders();
        r.needed();
        r.races();
        r.firstRace();
        due("a question changes nothing", state(r), before);
        due("the next step is as without them", r.step(0), 4);
        due("the value is as without them", r.value(0), 4);
    }

    private static int state(RaceRecorder r) {
        int sum = r.events() * 31 + r.enabled();
        for (int i = 0; i < 3; i++) {
            sum = sum * 31 + r.register(i);
            sum = sum * 31 + r.value(i);
            sum = sum * 31 + r.holder(i);
            sum = sum * 31 + r.thread(i);
        }
        return sum;
    }
}
