import java.util.ArrayList;
import java.util.HashMap;
import java.util.HashSet;
import java.util.List;
import java.util.Map;
import java.util.Set;
import java.util.TreeMap;

/**
 * Compares the class with a second program that follows the document's terms word for word: it writes
 * down every run and tells kinds apart by the order of all tied steps. The inputs come from a fixed
 * row of numbers, so that every execution makes the same calls.
 */
public final class ModelTest {
    private static final int OBJECTS = 400;
    private static final int CHANGES = 14;

    private static long seed = 20261115L;

    private static int pick(int bound) {
        seed = seed * 6364136223846793005L + 1442695040888963407L;
        return (int) ((seed >>> 33) % bound);
    }

    public static void main(String[] args) {
        for (int i = 0; i < OBJECTS; i++) {
            compareOneObject(i);
        }
        Due.end();
    }

    private static void compareOneObject(int object) {
        Asked x = new Asked();
        Model model = new Model();
        StringBuilder calls = new StringBuilder("object " + object + ":");
        int flavour = pick(4);
        for (int i = 0; i < CHANGES; i++) {
            change(x, model, flavour, calls);
            if (i % 4 == 1 || i == CHANGES - 1) {
                compare(x, model, calls.toString());
            }
        }
    }

    /** Some objects get few places or mostly locks, since those have many tied steps and stuck runs. */
    private static int pickWhat(int flavour) {
        if (flavour == 1) {
            return 8 * pick(4);
        }
        if (flavour == 2 && pick(4) != 0) {
            return 8 * (4 + pick(2)) + pick(2);
        }
        return 8 * pick(6) + pick(flavour == 3 ? 4 : 2);
    }

    private static void change(Asked x, Model model, int flavour, StringBuilder calls) {
        int choice = pick(12);
        if (choice == 0) {
            int thread = pick(5) - 1;
            calls.append(" drop(" + thread + ")");
            due(calls.toString(), x.drop(thread), model.drop(thread));
        } else if (choice == 1) {
            int variable = pick(5) - 1;
            int value = pick(10) - 1;
            calls.append(" initial(" + variable + ", " + value + ")");
            due(calls.toString(), x.initial(variable, value), model.initial(variable, value));
        } else {
            int thread = pick(12) == 0 ? pick(5) - 1 : pick(3);
            int what = pickWhat(flavour);
            int k = pick(12) == 0 ? pick(12) - 2 : pick(8);
            calls.append(" step(" + thread + ", " + what + ", " + k + ")");
            due(calls.toString(), x.step(thread, what, k), model.step(thread, what, k));
        }
    }

    private static void compare(Asked x, Model model, String calls) {
        model.explore();
        due(calls + " runs()", x.ask().runs(), model.runs.size());
        due(calls + " kinds()", x.ask().kinds(), model.kinds.size());
        due(calls + " stuckKinds()", x.ask().stuckKinds(), model.stuckKinds());
        due(calls + " results()", x.ask().results(), model.kindsOfResult().size());
        due(calls + " shortestStuck()", x.ask().shortestStuck(), model.shortestStuck());
        TreeMap<Integer, Integer> kindsOf = model.kindsOfResult();
        for (int result = -1; result <= 512; result++) {
            int due = result < 0 || result > 511 ? -1 : kindsOf.getOrDefault(result, 0);
            due(calls + " kindsOf(" + result + ")", x.ask().kindsOf(result), due);
            Integer next = kindsOf.higherKey(result);
            due(calls + " nextResult(" + result + ")", x.ask().nextResult(result), next == null ? -1 : next);
        }
        for (int i = -1; i <= 3; i++) {
            boolean good = i >= 0 && i < 3;
            due(calls + " steps(" + i + ")", x.ask().steps(i), good ? model.threads.get(i).size() : -1);
            due(calls + " peak(" + i + ")", x.ask().peak(i), good ? model.peak[i] : -1);
            due(calls + " endings(" + i + ")", x.ask().endings(i), good ? model.endings(i) : -1);
        }
        for (int first = -5; first <= 16; first++) {
            for (int second = -5; second <= 16; second++) {
                String pair = "(" + first + ", " + second + ")";
                due(calls + " before" + pair, x.ask().before(first, second), model.before(first, second));
                due(calls + " tied" + pair, x.ask().tied(first, second), model.tied(first, second));
            }
        }
    }

    private static void due(String what, int got, int want) {
        Due.due(what, got, want);
    }

    /**
     * An object that is asked no more often than the document allows: where its calls are used up, a
     * new one with the same changes takes its place.
     */
    private static final class Asked {
        private final List<int[]> changes = new ArrayList<>();
        private TraceExplorer object = new TraceExplorer();
        private int calls = 0;

        /** Counts a call, which the caller makes on the answer. */
        TraceExplorer ask() {
            if (calls == Due.CALLS) {
                renew();
            }
            calls++;
            return object;
        }

        private void renew() {
            object = new TraceExplorer();
            for (int[] change : changes) {
                make(object, change);
            }
            calls = changes.size();
        }

        int step(int thread, int what, int k) {
            return change(thread, what, k);
        }

        int drop(int thread) {
            return change(thread);
        }

        int initial(int variable, int value) {
            return change(variable, value);
        }

        private int change(int... arguments) {
            TraceExplorer asked = ask();
            changes.add(arguments);
            return make(asked, arguments);
        }

        /** The three changes take three, two and one arguments, which tells them apart. */
        private static int make(TraceExplorer x, int[] arguments) {
            if (arguments.length == 3) {
                return x.step(arguments[0], arguments[1], arguments[2]);
            }
            return arguments.length == 2 ? x.initial(arguments[0], arguments[1]) : x.drop(arguments[0]);
        }
    }

    private static final class Step {
        final int thread;
        final int index;
        final int operation;
        final int place;
        final int k;

        Step(int thread, int index, int what, int k) {
            this.thread = thread;
            this.index = index;
            this.operation = what / 8;
            this.place = what % 8;
            this.k = k;
        }

        boolean isTiedTo(Step other) {
            boolean sameThread = thread == other.thread;
            boolean bothOnVariables = operation <= 3 && other.operation <= 3;
            boolean bothOnLocks = operation >= 4 && other.operation >= 4;
            boolean bothRead = operation == 0 && other.operation == 0;
            boolean samePlace = place == other.place;
            return sameThread || bothOnVariables && samePlace && !bothRead || bothOnLocks && samePlace;
        }
    }

    private static final class State {
        int[] variables = new int[3];
        int[] accumulators = new int[3];
        int[] holders = {-1, -1};
        int[] taken = new int[3];

        State copy() {
            State state = new State();
            state.variables = variables.clone();
            state.accumulators = accumulators.clone();
            state.holders = holders.clone();
            state.taken = taken.clone();
            return state;
        }

        void take(Step step) {
            int p = step.place;
            int t = step.thread;
            taken[t]++;
            switch (step.operation) {
                case 0 -> accumulators[t] = variables[p];
                case 1 -> variables[p] = step.k;
                case 2 -> variables[p] = (accumulators[t] + step.k) & 7;
                case 3 -> variables[p] = (variables[p] + step.k) & 7;
                case 4 -> holders[p] = t;
                default -> holders[p] = holders[p] == t ? -1 : holders[p];
            }
        }
    }

    private static final class Run {
        final List<Step> row;
        final State end;
        final boolean complete;

        Run(List<Step> row, State end, boolean complete) {
            this.row = row;
            this.end = end;
            this.complete = complete;
        }

        int result() {
            return 64 * end.variables[0] + 8 * end.variables[1] + end.variables[2];
        }

        /** The steps of the run, and of every two tied steps which one comes first. */
        Set<String> kind() {
            Set<String> facts = new HashSet<>();
            for (int i = 0; i < row.size(); i++) {
                Step one = row.get(i);
                facts.add(one.thread + "." + one.index);
                for (int j = i + 1; j < row.size(); j++) {
                    Step other = row.get(j);
                    if (one.isTiedTo(other)) {
                        facts.add(one.thread + "." + one.index + "<" + other.thread + "." + other.index);
                    }
                }
            }
            return facts;
        }
    }

    private static final class Model {
        final List<List<Step>> threads = List.of(new ArrayList<>(), new ArrayList<>(), new ArrayList<>());
        final int[] initial = new int[3];
        final List<Run> runs = new ArrayList<>();
        final Map<Set<String>, Run> kinds = new HashMap<>();
        final int[] peak = new int[3];

        int step(int thread, int what, int k) {
            if (thread < 0 || thread > 2) {
                return -1;
            }
            if (what < 0 || what / 8 > 5 || what % 8 > (what / 8 < 4 ? 2 : 1)) {
                return -2;
            }
            if (k < 0 || k > 7) {
                return -3;
            }
            List<Step> list = threads.get(thread);
            if (list.size() == 3) {
                return -4;
            }
            list.add(new Step(thread, list.size(), what, k));
            return list.size();
        }

        int drop(int thread) {
            if (thread < 0 || thread > 2) {
                return -1;
            }
            List<Step> list = threads.get(thread);
            if (list.isEmpty()) {
                return -2;
            }
            list.remove(list.size() - 1);
            return list.size();
        }

        int initial(int variable, int value) {
            if (variable < 0 || variable > 2) {
                return -1;
            }
            if (value < 0 || value > 7) {
                return -2;
            }
            int old = initial[variable];
            initial[variable] = value;
            return old;
        }

        void explore() {
            runs.clear();
            kinds.clear();
            peak[0] = peak[1] = peak[2] = 0;
            State state = new State();
            state.variables = initial.clone();
            goOn(state, new ArrayList<>());
            for (Run run : runs) {
                kinds.put(run.kind(), run);
            }
        }

        private void goOn(State state, List<Step> row) {
            for (int v = 0; v < 3; v++) {
                peak[v] = Math.max(peak[v], state.variables[v]);
            }
            boolean ended = true;
            boolean complete = true;
            for (int t = 0; t < 3; t++) {
                List<Step> list = threads.get(t);
                if (state.taken[t] == list.size()) {
                    continue;
                }
                complete = false;
                Step step = list.get(state.taken[t]);
                if (step.operation == 4 && state.holders[step.place] != -1) {
                    continue;
                }
                ended = false;
                State next = state.copy();
                next.take(step);
                List<Step> longer = new ArrayList<>(row);
                longer.add(step);
                goOn(next, longer);
            }
            if (ended) {
                runs.add(new Run(row, state, complete));
            }
        }

        int stuckKinds() {
            int count = 0;
            for (Run run : kinds.values()) {
                count += run.complete ? 0 : 1;
            }
            return count;
        }

        TreeMap<Integer, Integer> kindsOfResult() {
            TreeMap<Integer, Integer> counts = new TreeMap<>();
            for (Run run : kinds.values()) {
                if (run.complete) {
                    counts.merge(run.result(), 1, Integer::sum);
                }
            }
            return counts;
        }

        int shortestStuck() {
            int least = 0;
            for (Run run : runs) {
                if (!run.complete && (least == 0 || run.row.size() < least)) {
                    least = run.row.size();
                }
            }
            return least;
        }

        int endings(int thread) {
            int set = 0;
            for (Run run : runs) {
                set |= run.complete ? 1 << run.end.accumulators[thread] : 0;
            }
            return set;
        }

        private Step find(int number) {
            List<Step> list = threads.get(number / 4);
            return number % 4 < list.size() ? list.get(number % 4) : null;
        }

        private int refusal(int first, int second) {
            if (first < 0 || second < 0 || first / 4 > 2 || second / 4 > 2) {
                return -1;
            }
            if (find(first) == null || find(second) == null) {
                return -2;
            }
            return first == second ? -3 : 0;
        }

        int before(int first, int second) {
            if (refusal(first, second) != 0) {
                return refusal(first, second);
            }
            for (Run run : runs) {
                if (run.complete && run.row.indexOf(find(first)) < run.row.indexOf(find(second))) {
                    return 1;
                }
            }
            return 0;
        }

        int tied(int first, int second) {
            if (refusal(first, second) != 0) {
                return refusal(first, second);
            }
            return find(first).isTiedTo(find(second)) ? 1 : 0;
        }
    }
}
