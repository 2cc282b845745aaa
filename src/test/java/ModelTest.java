import java.util.ArrayList;
import java.util.Arrays;
import java.util.HashSet;
import java.util.List;
import java.util.Set;

// Long runs of calls on new objects, compared with a model that follows the document's terms word by
// word: it replays all events for each question and looks for chains and orders by trying them.
public final class ModelTest {
    private static final int RUNS = 4000;
    private static final int CALLS = 120;

    private static final int BAD_ARG = -1000000001;
    private static final int FULL = -1000000002;
    private static final int BUSY = -1000000003;
    private static final int NONE = -1000000004;

    private static int wrong = 0;
    private static long seed = 20261115L;

    public static void main(String[] args) {
        for (int run = 0; run < RUNS && wrong == 0; run++) {
            compareRun(run);
        }
        System.out.println(wrong == 0 ? "all answers are as due" : wrong + " answers are not as due");
        if (wrong != 0) {
            System.exit(1);
        }
    }

    // A generator of its own, so that each run of the test makes the same calls.
    private static int pick(int bound) {
        seed = seed * 6364136223846793005L + 1442695040888963407L;
        return (int) ((seed >>> 33) % bound);
    }

    private static int near(int bound) {
        return pick(12) == 0 ? pick(2) * (bound + 1) - 1 : pick(bound);
    }

    private static void compareRun(int run) {
        RaceRecorder r = new RaceRecorder();
        Model m = new Model();
        List<String> calls = new ArrayList<>();
        setUp(r, m, calls, run);
        for (int c = 0; c < CALLS && wrong == 0; c++) {
            compareCall(r, m, calls);
        }
        if (wrong > 0) {
            System.out.println("run " + run + ":");
            for (String call : calls) {
                System.out.println("  " + call);
            }
        }
    }

    private static void due(List<String> calls, String call, int got, int want) {
        calls.add(call + " answered " + got + (got == want ? "" : ", due is " + want));
        if (got != want) {
            wrong++;
        }
    }

    private static int asInt(boolean b) {
        return b ? 1 : 0;
    }

    private static void setUp(RaceRecorder r, Model m, List<String> calls, int run) {
        int operations = run % 3 == 0 ? pick(9) : 8;
        for (int i = 0; i < operations; i++) {
            appendOperation(r, m, calls, pick(3));
        }
    }

    // An unlock without its lock stops a thread for good, so most unlocks are made to follow one.
    private static void appendOperation(RaceRecorder r, Model m, List<String> calls, int t) {
        List<int[]> program = m.programs.get(t);
        int kind = pick(5);
        int x = kind == 2 ? pick(19) - 9 : pick(2);
        int held = lastLocked(program);
        if (kind == 4 && held >= 0) {
            x = held;
        } else if (kind == 4) {
            kind = pick(4) == 0 ? 4 : 3;
        }
        due(calls, "program(" + t + ", " + kind + ", " + x + ")", r.program(t, kind, x), m.program(t, kind, x));
    }

    private static int lastLocked(List<int[]> program) {
        int held = -1;
        for (int[] operation : program) {
            if (operation[0] == 3) {
                held = operation[1];
            } else if (operation[0] == 4) {
                held = -1;
            }
        }
        return held;
    }

    private static void compareCall(RaceRecorder r, Model m, List<String> calls) {
        int kind = pick(64);
        if (kind < 22) {
            int t = near(3);
            due(calls, "step(" + t + ")", r.step(t), m.step(t));
        } else if (kind < 27) {
            due(calls, "back()", r.back(), m.back());
        } else if (kind < 28) {
            compareChange(r, m, calls);
        } else if (kind < 46) {
            compareState(r, m, calls);
        } else if (kind < 62) {
            compareOrder(r, m, calls);
        } else {
            compareOutcomes(r, m, calls);
        }
    }

    private static void compareChange(RaceRecorder r, Model m, List<String> calls) {
        if (pick(4) > 0) {
            calls.add("again()");
            r.again();
            m.done.clear();
        }
        int t = near(3);
        int v = near(2);
        int x = pick(3) == 0 ? (int) seed : pick(5);
        switch (pick(4)) {
            case 0:
                due(calls, "unprogram(" + t + ")", r.unprogram(t), m.unprogram(t));
                break;
            case 1:
                due(calls, "begin(" + v + ", " + x + ")", r.begin(v, x), m.begin(v, x));
                break;
            case 2:
                int kind = near(5);
                int k = pick(3) > 0 ? near(2) : pick(23) - 11;
                due(calls, "program(" + t + ", " + kind + ", " + k + ")", r.program(t, kind, k), m.program(t, kind, k));
                break;
            default:
                t = pick(3);
                due(calls, "unprogram(" + t + ")", r.unprogram(t), m.unprogram(t));
                appendOperation(r, m, calls, pick(3));
                break;
        }
    }

    private static void compareState(RaceRecorder r, Model m, List<String> calls) {
        int n = near(3);
        int i = near(9);
        due(calls, "events()", r.events(), m.done.size());
        due(calls, "enabled()", r.enabled(), m.enabled());
        due(calls, "thread(" + i + ")", r.thread(i), m.isEvent(i) ? m.done.get(i) : NONE);
        State s = m.after(m.done.size());
        due(calls, "value(" + n + ")", r.value(n), n < 0 || n > 1 ? BAD_ARG : s.values[n]);
        due(calls, "register(" + n + ")", r.register(n), n < 0 || n > 2 ? BAD_ARG : s.registers[n]);
        due(calls, "holder(" + n + ")", r.holder(n), n < 0 || n > 1 ? BAD_ARG : s.holders[n] < 0 ? NONE : s.holders[n]);
    }

    private static void compareOrder(RaceRecorder r, Model m, List<String> calls) {
        int v = near(2);
        switch (pick(10)) {
            case 0: due(calls, "conflicts()", r.conflicts(), m.conflicts()); break;
            case 1: due(calls, "needed()", r.needed(), m.needed()); break;
            case 2: due(calls, "orders()", r.orders(), m.orders(new ArrayList<>())); break;
            case 3: due(calls, "races()", r.races(), m.races().size()); break;
            case 4: due(calls, "firstRace()", r.firstRace(), m.firstRace()); break;
            case 5: due(calls, "guard(" + v + ")", r.guard(v), m.guard(v)); break;
            case 6: due(calls, "crossed()", asInt(r.crossed()), asInt(m.crossed())); break;
            default: comparePairs(r, m, calls); break;
        }
    }

    private static void comparePairs(RaceRecorder r, Model m, List<String> calls) {
        for (int k = 0; k < 4; k++) {
            int i = near(9);
            int j = near(9);
            String pair = "(" + i + ", " + j + ")";
            due(calls, "must" + pair, asInt(r.must(i, j)), asInt(m.before(i, j, false)));
            due(calls, "known" + pair, asInt(r.known(i, j)), asInt(m.before(i, j, true)));
        }
    }

    private static void compareOutcomes(RaceRecorder r, Model m, List<String> calls) {
        int v = near(2);
        switch (pick(4)) {
            case 0: due(calls, "outcomes()", r.outcomes(), m.outcomes(0).size()); break;
            case 1: due(calls, "deadlocks()", r.deadlocks(), m.deadlocks()); break;
            case 2: due(calls, "greatest(" + v + ")", r.greatest(v), m.greatest(v)); break;
            default: due(calls, "ahead()", r.ahead(), m.outcomes(m.done.size()).size()); break;
        }
    }

    private static final class State {
        final int[] values = new int[2];
        final int[] registers = new int[3];
        final int[] positions = new int[3];
        final int[] holders = {-1, -1};
    }

    private static final class Model {
        final List<List<int[]>> programs = Arrays.asList(new ArrayList<>(), new ArrayList<>(), new ArrayList<>());
        final int[] begins = new int[2];
        final List<Integer> done = new ArrayList<>();

        int program(int t, int kind, int x) {
            int least = kind == 2 ? -9 : 0;
            int most = kind == 2 ? 9 : 1;
            if (t < 0 || t > 2 || kind < 0 || kind > 4 || x < least || x > most) {
                return BAD_ARG;
            }
            if (!done.isEmpty()) {
                return BUSY;
            }
            int all = 0;
            for (List<int[]> program : programs) {
                all += program.size();
            }
            if (all == 8 || programs.get(t).size() == 4) {
                return FULL;
            }
            programs.get(t).add(new int[] {kind, x});
            return programs.get(t).size() - 1;
        }

        int begin(int v, int x) {
            if (v < 0 || v > 1) {
                return BAD_ARG;
            }
            if (!done.isEmpty()) {
                return BUSY;
            }
            int old = begins[v];
            begins[v] = x;
            return old;
        }

        int unprogram(int t) {
            if (t < 0 || t > 2) {
                return BAD_ARG;
            }
            if (!done.isEmpty()) {
                return BUSY;
            }
            List<int[]> program = programs.get(t);
            if (program.isEmpty()) {
                return NONE;
            }
            program.remove(program.size() - 1);
            return program.size();
        }

        int step(int t) {
            if (t < 0 || t > 2) {
                return BAD_ARG;
            }
            if (!isEnabled(after(done.size()), t)) {
                return NONE;
            }
            done.add(t);
            return done.size() - 1;
        }

        int back() {
            return done.isEmpty() ? NONE : done.remove(done.size() - 1);
        }

        State after(int count) {
            return replay(done.subList(0, count));
        }

        State replay(List<Integer> threads) {
            State s = new State();
            s.values[0] = begins[0];
            s.values[1] = begins[1];
            for (int t : threads) {
                int[] operation = programs.get(t).get(s.positions[t]++);
                int x = operation[1];
                if (operation[0] == 0) {
                    s.registers[t] = s.values[x];
                } else if (operation[0] == 1) {
                    s.values[x] = s.registers[t];
                } else if (operation[0] == 2) {
                    s.registers[t] += x;
                } else {
                    s.holders[x] = operation[0] == 3 ? t : -1;
                }
            }
            return s;
        }

        boolean isEnabled(State s, int t) {
            if (s.positions[t] == programs.get(t).size()) {
                return false;
            }
            int[] next = programs.get(t).get(s.positions[t]);
            boolean heldByAny = next[0] == 3 && s.holders[next[1]] >= 0;
            boolean notItsOwn = next[0] == 4 && s.holders[next[1]] != t;
            return !heldByAny && !notItsOwn;
        }

        int enabled() {
            int sum = 0;
            for (int t = 0; t < 3; t++) {
                sum += isEnabled(after(done.size()), t) ? (int) Math.pow(2, t) : 0;
            }
            return sum;
        }

        boolean isEvent(int i) {
            return i >= 0 && i < done.size();
        }

        int[] operation(int i) {
            int t = done.get(i);
            return programs.get(t).get(after(i).positions[t]);
        }

        boolean ofVariables(int i, int j) {
            return operation(i)[0] <= 1 && operation(j)[0] <= 1;
        }

        boolean conflict(int i, int j) {
            int[] a = operation(i);
            int[] b = operation(j);
            boolean locks = a[0] >= 3 && b[0] >= 3;
            boolean variables = ofVariables(i, j) && a[0] + b[0] >= 1;
            return !done.get(i).equals(done.get(j)) && a[1] == b[1] && (locks || variables);
        }

        boolean linked(int i, int j, boolean known) {
            int[] a = operation(i);
            int[] b = operation(j);
            boolean link = known ? a[0] == 4 && b[0] == 3 && a[1] == b[1] : conflict(i, j);
            return link || done.get(i).equals(done.get(j));
        }

        boolean before(int i, int j, boolean known) {
            if (!isEvent(i) || !isEvent(j)) {
                return false;
            }
            for (int next = i + 1; next <= j; next++) {
                if (linked(i, next, known) && (next == j || before(next, j, known))) {
                    return true;
                }
            }
            return false;
        }

        int conflicts() {
            int count = 0;
            for (int i = 0; i < done.size(); i++) {
                for (int j = i + 1; j < done.size(); j++) {
                    count += asInt(conflict(i, j));
                }
            }
            return count;
        }

        int needed() {
            int count = 0;
            for (int i = 0; i < done.size(); i++) {
                for (int j = i + 1; j < done.size(); j++) {
                    boolean between = false;
                    for (int k = 0; k < done.size(); k++) {
                        between |= before(i, k, false) && before(k, j, false);
                    }
                    count += asInt(conflict(i, j) && !between);
                }
            }
            return count;
        }

        int orders(List<Integer> soFar) {
            if (soFar.size() == done.size()) {
                return 1;
            }
            int count = 0;
            for (int next = 0; next < done.size(); next++) {
                if (!soFar.contains(next) && mayFollow(soFar, next)) {
                    soFar.add(next);
                    count += orders(soFar);
                    soFar.remove(soFar.size() - 1);
                }
            }
            return count;
        }

        // A link is enough to look at: an order that keeps all links keeps all chains.
        boolean mayFollow(List<Integer> soFar, int next) {
            for (int i = 0; i < next; i++) {
                if (!soFar.contains(i) && linked(i, next, false)) {
                    return false;
                }
            }
            return true;
        }

        List<Integer> races() {
            List<Integer> seconds = new ArrayList<>();
            for (int i = 0; i < done.size(); i++) {
                for (int j = i + 1; j < done.size(); j++) {
                    if (conflict(i, j) && ofVariables(i, j) && !before(i, j, true)) {
                        seconds.add(j);
                    }
                }
            }
            return seconds;
        }

        int firstRace() {
            int least = Integer.MAX_VALUE;
            for (int j : races()) {
                least = Math.min(least, j);
            }
            return least == Integer.MAX_VALUE ? NONE : least;
        }

        int guard(int v) {
            if (v < 0 || v > 1) {
                return BAD_ARG;
            }
            int sum = 0;
            for (int m = 0; m < 2; m++) {
                boolean always = true;
                for (int i = 0; i < done.size(); i++) {
                    boolean uses = operation(i)[0] <= 1 && operation(i)[1] == v;
                    always &= !uses || after(i).holders[m] == done.get(i);
                }
                sum += always ? m + 1 : 0;
            }
            return sum;
        }

        boolean crossed() {
            boolean[] under = new boolean[2];
            for (int i = 0; i < done.size(); i++) {
                int[] operation = operation(i);
                if (operation[0] == 3 && after(i).holders[1 - operation[1]] == done.get(i)) {
                    under[operation[1]] = true;
                }
            }
            return under[0] && under[1];
        }

        Set<List<Integer>> outcomes(int count) {
            Set<List<Integer>> all = new HashSet<>();
            collect(new ArrayList<>(done.subList(0, count)), all);
            return all;
        }

        void collect(List<Integer> threads, Set<List<Integer>> all) {
            State s = replay(threads);
            boolean ended = true;
            for (int t = 0; t < 3; t++) {
                if (isEnabled(s, t)) {
                    ended = false;
                    threads.add(t);
                    collect(threads, all);
                    threads.remove(threads.size() - 1);
                }
            }
            if (ended) {
                all.add(Arrays.asList(s.values[0], s.values[1], s.registers[0], s.registers[1], s.registers[2],
                    left(s, 0), left(s, 1), left(s, 2)));
            }
        }

        int left(State s, int t) {
            return programs.get(t).size() - s.positions[t];
        }

        int deadlocks() {
            int count = 0;
            for (List<Integer> outcome : outcomes(0)) {
                count += asInt(outcome.get(5) + outcome.get(6) + outcome.get(7) > 0);
            }
            return count;
        }

        int greatest(int v) {
            if (v < 0 || v > 1) {
                return BAD_ARG;
            }
            int most = Integer.MIN_VALUE;
            for (List<Integer> outcome : outcomes(0)) {
                most = Math.max(most, outcome.get(v));
            }
            return most;
        }
    }
}
