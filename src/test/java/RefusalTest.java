import java.util.ArrayList;
import java.util.List;

// "A refused call answers the code named and changes nothing.": each refused call is made in each kind of
// state, and all later calls are then answered as on a twin on which it was not made.
public final class RefusalTest {
    private static final int READ = 0;
    private static final int WRITE = 1;
    private static final int ADD = 2;
    private static final int LOCK = 3;
    private static final int UNLOCK = 4;

    private static final int BAD_ARG = -1000000001;
    private static final int FULL = -1000000002;
    private static final int BUSY = -1000000003;
    private static final int NONE = -1000000004;

    private static final int LEAST = Integer.MIN_VALUE;
    private static final int MOST = Integer.MAX_VALUE;
    private static final int CALL_LIMIT = 512;

    private static final int[] NO_THREAD = {LEAST, -2, -1, 3, 4, 256, MOST};
    private static final int[] NEITHER_0_NOR_1 = {LEAST, -2, -1, 2, 3, 256, MOST};
    private static final int[] NO_KIND = {LEAST, -2, -1, 5, 6, 256, MOST};
    private static final int[] NO_ADDEND = {LEAST, -11, -10, 10, 11, 256, MOST};

    private static int wrong = 0;

    private interface Call {
        int on(RaceRecorder r);
    }

    // A kind of state, and what is refused there beside the calls with wrong arguments.
    private static final class Place {
        final String name;
        final int[][] programs;
        final int[] steps;
        int undone = 0;

        Place(String name, int[][] programs, int... steps) {
            this.name = name;
            this.programs = programs;
            this.steps = steps;
        }

        Place withUndone(int count) {
            undone = count;
            return this;
        }

        boolean hasEvents() {
            return steps.length > undone;
        }

        int operations() {
            return size(0) + size(1) + size(2);
        }

        int size(int t) {
            return programs[t].length / 2;
        }

        RaceRecorder make() {
            RaceRecorder r = new RaceRecorder();
            for (int t = 0; t < 3; t++) {
                for (int i = 0; i < programs[t].length; i += 2) {
                    due(name + ": set up", r.program(t, programs[t][i], programs[t][i + 1]), i / 2);
                }
            }
            r.begin(0, 100);
            r.begin(1, -7);
            for (int i = 0; i < steps.length; i++) {
                due(name + ": set up", r.step(steps[i]), i);
            }
            for (int i = 0; i < undone; i++) {
                r.back();
            }
            return r;
        }
    }

    private static void due(String call, int got, int want) {
        if (got != want) {
            wrong++;
            System.out.println(call + " answered " + got + ", due is " + want);
        }
    }

    private static int[][] programs(int[]... all) {
        return all;
    }

    private static int[] ops(int... program) {
        return program;
    }

    public static void main(String[] args) {
        int[] none = ops();
        int[] adds = ops(ADD, 1, ADD, 2, ADD, 3, ADD, 4);
        int[] guarded = ops(LOCK, 0, READ, 0, WRITE, 1, UNLOCK, 0);
        int[][] half = programs(ops(READ, 0, ADD, 1, WRITE, 0), ops(LOCK, 1, WRITE, 0), none);
        int[][] full = programs(guarded, ops(LOCK, 0, ADD, 5, WRITE, 0), ops(READ, 1));
        int[][] stuck = programs(ops(LOCK, 0, LOCK, 1), ops(LOCK, 1, LOCK, 0), ops(UNLOCK, 0));
        int[][] sizes = programs(adds, ops(WRITE, 0, ADD, 1), none);

        refusals(new Place("empty", programs(none, none, none)), 0);
        refusals(new Place("half programmed", half), 3);
        refusals(new Place("a full program", sizes), 3);
        refusals(new Place("full of operations", full), 7);
        refusals(new Place("full in two programs", programs(adds, none, adds)), 5);
        refusals(new Place("the first event", full, 0), 5);
        refusals(new Place("midway", half, 0, 1, 0), 3);
        refusals(new Place("one program at its end", sizes, 0, 0, 1, 0, 0), 2);
        refusals(new Place("before the last event", full, 0, 0, 2, 0, 0, 1, 1), 2);
        refusals(new Place("full of events", full, 0, 0, 2, 0, 0, 1, 1, 1), 0);
        refusals(new Place("full of events, one undone", full, 0, 0, 2, 0, 0, 1, 1, 1).withUndone(1), 2);
        refusals(new Place("full of events, all undone", full, 0, 0, 2, 0, 0, 1, 1, 1).withUndone(8), 7);
        refusals(new Place("a deadlock", stuck, 0, 1), 0);
        refusals(new Place("a deadlock at the begin", programs(ops(UNLOCK, 0), ops(UNLOCK, 1, ADD, 1), none)), 0);
        System.out.println(wrong == 0 ? "all answers are as due" : wrong + " answers are not as due");
        if (wrong != 0) {
            System.exit(1);
        }
    }

    private static void refusals(Place place, int enabled) {
        due(place.name + ": enabled()", place.make().enabled(), enabled);
        wrongArgumentsOfChanges(place);
        wrongArgumentsOfQuestions(place);
        refusedPrograms(place);
        refusedBegins(place);
        refusedUnprograms(place);
        refusedSteps(place, enabled);
        if (!place.hasEvents()) {
            refused(place, "back()", NONE, r -> r.back());
        }
    }

    private static void wrongArgumentsOfChanges(Place place) {
        for (int t : NO_THREAD) {
            refused(place, "program(" + t + ", ADD, 1)", BAD_ARG, r -> r.program(t, ADD, 1));
            refused(place, "unprogram(" + t + ")", BAD_ARG, r -> r.unprogram(t));
            refused(place, "step(" + t + ")", BAD_ARG, r -> r.step(t));
        }
        for (int v : NEITHER_0_NOR_1) {
            refused(place, "begin(" + v + ", 55)", BAD_ARG, r -> r.begin(v, 55));
        }
        for (int t = 0; t < 3; t++) {
            int thread = t;
            for (int kind : NO_KIND) {
                refused(place, "program(" + t + ", " + kind + ", 1)", BAD_ARG, r -> r.program(thread, kind, 1));
            }
            for (int k : NO_ADDEND) {
                refused(place, "program(" + t + ", ADD, " + k + ")", BAD_ARG, r -> r.program(thread, ADD, k));
            }
            for (int kind : new int[] {READ, WRITE, LOCK, UNLOCK}) {
                for (int x : NEITHER_0_NOR_1) {
                    String call = "program(" + t + ", " + kind + ", " + x + ")";
                    refused(place, call, BAD_ARG, r -> r.program(thread, kind, x));
                }
            }
        }
    }

    private static void wrongArgumentsOfQuestions(Place place) {
        for (int t : NO_THREAD) {
            refused(place, "register(" + t + ")", BAD_ARG, r -> r.register(t));
        }
        for (int x : NEITHER_0_NOR_1) {
            refused(place, "value(" + x + ")", BAD_ARG, r -> r.value(x));
            refused(place, "holder(" + x + ")", BAD_ARG, r -> r.holder(x));
            refused(place, "guard(" + x + ")", BAD_ARG, r -> r.guard(x));
            refused(place, "greatest(" + x + ")", BAD_ARG, r -> r.greatest(x));
        }
        int behind = place.steps.length - place.undone;
        for (int i : new int[] {LEAST, -1, behind, behind + 1, 8, 9, MOST}) {
            refused(place, "thread(" + i + ")", NONE, r -> r.thread(i));
            refused(place, "must(0, " + i + ")", 0, r -> r.must(0, i) ? 1 : 0);
            refused(place, "must(" + i + ", 0)", 0, r -> r.must(i, 0) ? 1 : 0);
            refused(place, "known(0, " + i + ")", 0, r -> r.known(0, i) ? 1 : 0);
            refused(place, "known(" + i + ", 0)", 0, r -> r.known(i, 0) ? 1 : 0);
        }
    }

    private static void refusedPrograms(Place place) {
        for (int t = 0; t < 3; t++) {
            int thread = t;
            boolean isFull = place.size(t) == 4 || place.operations() == 8;
            if (place.hasEvents() || isFull) {
                int code = place.hasEvents() ? BUSY : FULL;
                refused(place, "program(" + t + ", ADD, -9)", code, r -> r.program(thread, ADD, -9));
                refused(place, "program(" + t + ", WRITE, 1)", code, r -> r.program(thread, WRITE, 1));
                refused(place, "program(" + t + ", LOCK, 0)", code, r -> r.program(thread, LOCK, 0));
            }
        }
    }

    private static void refusedBegins(Place place) {
        for (int v = 0; v < 2 && place.hasEvents(); v++) {
            int variable = v;
            refused(place, "begin(" + v + ", 55)", BUSY, r -> r.begin(variable, 55));
            refused(place, "begin(" + v + ", the least)", BUSY, r -> r.begin(variable, LEAST));
        }
    }

    private static void refusedUnprograms(Place place) {
        for (int t = 0; t < 3; t++) {
            int thread = t;
            if (place.hasEvents()) {
                refused(place, "unprogram(" + t + ")", BUSY, r -> r.unprogram(thread));
            } else if (place.size(t) == 0) {
                refused(place, "unprogram(" + t + ")", NONE, r -> r.unprogram(thread));
            }
        }
    }

    private static void refusedSteps(Place place, int enabled) {
        for (int t = 0; t < 3; t++) {
            int thread = t;
            if ((enabled >> t & 1) == 0) {
                refused(place, "step(" + t + ")", NONE, r -> r.step(thread));
            }
        }
    }

    private static void refused(Place place, String name, int code, Call call) {
        RaceRecorder called = place.make();
        RaceRecorder twin = place.make();
        due(place.name + ": " + name, call.on(called), code);
        due(place.name + ": " + name + " once more", call.on(called), code);
        List<Integer> got = new ArrayList<>();
        List<Integer> want = new ArrayList<>();
        laterAnswers(called, got);
        laterAnswers(twin, want);
        due(place.name + ": " + name + ", calls later answered otherwise", differences(got, want), 0);
        // 8 operations, 2 begin values, 8 steps and as many undone come before.
        due("an object's calls beyond the limit", Math.max(0, 8 + 2 + 8 + 8 + 2 + got.size() + 1 - CALL_LIMIT), 0);
    }

    private static int differences(List<Integer> got, List<Integer> want) {
        int count = Math.abs(got.size() - want.size());
        for (int i = 0; i < Math.min(got.size(), want.size()); i++) {
            if (!got.get(i).equals(want.get(i))) {
                count++;
            }
        }
        return count;
    }

    private static void laterAnswers(RaceRecorder r, List<Integer> answers) {
        askAll(r, answers);
        stepAll(r, answers);
        askAll(r, answers);
        for (int i = 0; i < 9; i++) {
            answers.add(r.back());
        }
        askState(r, answers);
        answers.add(r.outcomes());
        answers.add(r.begin(0, 3));
        answers.add(r.begin(1, 4));
        for (int t = 0; t < 3; t++) {
            for (int i = 0; i < 5; i++) {
                answers.add(r.program(t, ADD, i));
            }
        }
        stepAll(r, answers);
        askState(r, answers);
        r.again();
        for (int t = 0; t < 3; t++) {
            for (int i = 0; i < 5; i++) {
                answers.add(r.unprogram(t));
            }
        }
        answers.add(r.outcomes());
    }

    private static void stepAll(RaceRecorder r, List<Integer> answers) {
        for (int round = 0; round < 4; round++) {
            for (int t = 0; t < 3; t++) {
                answers.add(r.step(t));
            }
        }
    }

    private static void askState(RaceRecorder r, List<Integer> answers) {
        answers.add(r.events());
        answers.add(r.enabled());
        for (int x = 0; x < 2; x++) {
            answers.add(r.value(x));
            answers.add(r.holder(x));
        }
        for (int t = 0; t < 3; t++) {
            answers.add(r.register(t));
        }
    }

    private static void askAll(RaceRecorder r, List<Integer> answers) {
        askState(r, answers);
        for (int j = 0; j < 8; j++) {
            answers.add(r.thread(j));
            for (int i = 0; i < j; i++) {
                answers.add(r.must(i, j) ? 1 : 0);
                answers.add(r.known(i, j) ? 1 : 0);
            }
        }
        answers.add(r.conflicts());
        answers.add(r.needed());
        answers.add(r.orders());
        answers.add(r.races());
        answers.add(r.firstRace());
        answers.add(r.crossed() ? 1 : 0);
        answers.add(r.outcomes());
        answers.add(r.deadlocks());
        answers.add(r.ahead());
        for (int v = 0; v < 2; v++) {
            answers.add(r.guard(v));
            answers.add(r.greatest(v));
        }
    }
}
