/**
 * All ways in which three short threads can take their steps in turn.
 *
 * Every change of the steps or the initial values goes through all runs once and keeps what the
 * questions ask for, so that a question only reads.
 */
public final class TraceExplorer {
    private static final int THREADS = 3;
    private static final int VARIABLES = 3;
    private static final int LOCKS = 2;
    private static final int VALUES = 8;
    private static final int RESULTS = 512;

    private static final int MOST_OF_A_THREAD = 3;
    private static final int MOST_OF_ALL = 9;

    /** Three threads of three steps can be interleaved in 9! / (3! * 3! * 3!) ways; locks only make it fewer. */
    private static final int MOST_RUNS = 1680;

    /** A step has the number that `before` and `tied` give it: 4 * thread + place in the thread. */
    private static final int NUMBERS_OF_A_THREAD = 4;
    private static final int NUMBERS = 12;

    private static final int PLACES = 8;
    private static final int READ = 0;
    private static final int WRITE = 1;
    private static final int STORE = 2;
    private static final int ADD = 3;
    private static final int LOCK = 4;
    private static final int UNLOCK = 5;

    private static final int NONE = -1;

    // What the caller has put in.
    private final int[] stepCount = new int[THREADS];
    private final int[] operation = new int[NUMBERS];
    private final int[] place = new int[NUMBERS];
    private final int[] operand = new int[NUMBERS];
    private final int[] initialValue = new int[VARIABLES];

    // The run that is being taken.
    private final int[] current = new int[VARIABLES];
    private final int[] accumulator = new int[THREADS];
    private final int[] holder = new int[LOCKS];
    private final int[] taken = new int[THREADS];
    private final int[] row = new int[MOST_OF_ALL];
    private int length;

    // Whose turn it is at each place of the run, and where the next run first differs from it.
    private final int[] turn = new int[MOST_OF_ALL];
    private int branch;
    private int branchThread;

    // What is known of all runs.
    private final int[] completeKinds = new int[RESULTS];
    private final int[] greatest = new int[VARIABLES];
    private final int[] endingSet = new int[THREADS];
    private final int[] laterSet = new int[NUMBERS];
    private int runCount;
    private int kindCount;
    private int stuckKindCount;
    private int shortestStuckLength;

    public TraceExplorer() {
        explore();
    }

    public int step(int thread, int what, int k) {
        if (!isThread(thread)) {
            return -1;
        }
        if (!isWhat(what)) {
            return -2;
        }
        if (!isValue(k)) {
            return -3;
        }
        if (stepCount[thread] >= MOST_OF_A_THREAD) {
            return -4;
        }
        int number = thread * NUMBERS_OF_A_THREAD + stepCount[thread];
        operation[number] = what / PLACES;
        place[number] = what % PLACES;
        operand[number] = k;
        stepCount[thread]++;
        explore();
        return stepCount[thread];
    }

    public int drop(int thread) {
        if (!isThread(thread)) {
            return -1;
        }
        if (stepCount[thread] == 0) {
            return -2;
        }
        stepCount[thread]--;
        explore();
        return stepCount[thread];
    }

    public int initial(int variable, int value) {
        if (!isVariable(variable)) {
            return -1;
        }
        if (!isValue(value)) {
            return -2;
        }
        int old = initialValue[variable];
        initialValue[variable] = value;
        explore();
        return old;
    }

    public int steps(int thread) {
        return isThread(thread) ? stepCount[thread] : -1;
    }

    public int runs() {
        return runCount;
    }

    public int kinds() {
        return kindCount;
    }

    public int stuckKinds() {
        return stuckKindCount;
    }

    public int results() {
        int count = 0;
        for (int result = 0; result < RESULTS; result++) {
            if (completeKinds[result] > 0) {
                count++;
            }
        }
        return count;
    }

    public int nextResult(int after) {
        for (int result = 0; result < RESULTS; result++) {
            if (result > after && completeKinds[result] > 0) {
                return result;
            }
        }
        return -1;
    }

    public int kindsOf(int result) {
        return result >= 0 && result < RESULTS ? completeKinds[result] : -1;
    }

    public int peak(int variable) {
        return isVariable(variable) ? greatest[variable] : -1;
    }

    public int endings(int thread) {
        return isThread(thread) ? endingSet[thread] : -1;
    }

    public int before(int first, int second) {
        int refusal = refusalOfPair(first, second);
        if (refusal < 0) {
            return refusal;
        }
        return laterSet[first] >> second & 1;
    }

    public int tied(int first, int second) {
        int refusal = refusalOfPair(first, second);
        if (refusal < 0) {
            return refusal;
        }
        return areTied(first, second) ? 1 : 0;
    }

    public int shortestStuck() {
        return shortestStuckLength;
    }

    private static boolean isThread(int thread) {
        return thread >= 0 && thread < THREADS;
    }

    private static boolean isVariable(int variable) {
        return variable >= 0 && variable < VARIABLES;
    }

    private static boolean isValue(int number) {
        return number >= 0 && number < VALUES;
    }

    private static boolean isWhat(int what) {
        if (what < 0 || what / PLACES > UNLOCK) {
            return false;
        }
        int places = what / PLACES >= LOCK ? LOCKS : VARIABLES;
        return what % PLACES < places;
    }

    private static boolean isNumber(int number) {
        return number >= 0 && number < NUMBERS;
    }

    private int refusalOfPair(int first, int second) {
        if (!isNumber(first) || !isNumber(second)) {
            return -1;
        }
        if (!isStep(first) || !isStep(second)) {
            return -2;
        }
        return first == second ? -3 : 0;
    }

    private boolean isStep(int number) {
        return number % NUMBERS_OF_A_THREAD < stepCount[number / NUMBERS_OF_A_THREAD];
    }

    private boolean areTied(int one, int other) {
        if (one / NUMBERS_OF_A_THREAD == other / NUMBERS_OF_A_THREAD) {
            return true;
        }
        boolean onLock = operation[one] >= LOCK;
        boolean otherOnLock = operation[other] >= LOCK;
        if (onLock != otherOnLock || place[one] != place[other]) {
            return false;
        }
        return operation[one] != READ || operation[other] != READ;
    }

    /**
     * Takes the runs in the order of their rows of threads: each new run keeps the row up to the last
     * place where a greater thread could have gone, lets the least such thread go there, and from then
     * on always the least thread that can.
     */
    private void explore() {
        forgetRuns();
        int given = 0;
        for (int run = 0; run < MOST_RUNS && given != NONE; run++) {
            takeRun(given);
            recordRun();
            given = turnToNextRun();
        }
    }

    private void forgetRuns() {
        for (int result = 0; result < RESULTS; result++) {
            completeKinds[result] = 0;
        }
        for (int variable = 0; variable < VARIABLES; variable++) {
            greatest[variable] = initialValue[variable];
        }
        for (int thread = 0; thread < THREADS; thread++) {
            endingSet[thread] = 0;
        }
        for (int number = 0; number < NUMBERS; number++) {
            laterSet[number] = 0;
        }
        runCount = 0;
        kindCount = 0;
        stuckKindCount = 0;
        shortestStuckLength = 0;
    }

    /** Takes the first `given` steps as `turn` has them, and finds the turns after them. */
    private void takeRun(int given) {
        beginRun();
        for (int at = 0; at < MOST_OF_ALL; at++) {
            if (at >= given) {
                turn[at] = nextAble(NONE);
            }
            if (turn[at] == NONE) {
                break;
            }
            int greater = nextAble(turn[at]);
            if (greater != NONE) {
                branch = at;
                branchThread = greater;
            }
            takeStep(turn[at]);
        }
    }

    /** Answers how many turns of the next run are given, or NONE if this run is the last. */
    private int turnToNextRun() {
        if (branch == NONE) {
            return NONE;
        }
        turn[branch] = branchThread;
        return branch + 1;
    }

    private void beginRun() {
        for (int variable = 0; variable < VARIABLES; variable++) {
            current[variable] = initialValue[variable];
        }
        for (int thread = 0; thread < THREADS; thread++) {
            accumulator[thread] = 0;
            taken[thread] = 0;
        }
        for (int lock = 0; lock < LOCKS; lock++) {
            holder[lock] = NONE;
        }
        length = 0;
        branch = NONE;
    }

    /** The least thread greater than `after` that can take a step now, or NONE. */
    private int nextAble(int after) {
        for (int thread = after + 1; thread < THREADS; thread++) {
            if (isAble(thread)) {
                return thread;
            }
        }
        return NONE;
    }

    private boolean isAble(int thread) {
        if (taken[thread] >= stepCount[thread]) {
            return false;
        }
        int number = thread * NUMBERS_OF_A_THREAD + taken[thread];
        return operation[number] != LOCK || holder[place[number]] == NONE;
    }

    private void takeStep(int thread) {
        int number = thread * NUMBERS_OF_A_THREAD + taken[thread];
        int where = place[number];
        switch (operation[number]) {
            case READ:
                accumulator[thread] = current[where];
                break;
            case WRITE:
                setValue(where, operand[number]);
                break;
            case STORE:
                setValue(where, accumulator[thread] + operand[number]);
                break;
            case ADD:
                setValue(where, current[where] + operand[number]);
                break;
            case LOCK:
                holder[where] = thread;
                break;
            default:
                giveBack(where, thread);
                break;
        }
        row[length] = number;
        length++;
        taken[thread]++;
    }

    private void setValue(int variable, int sum) {
        current[variable] = sum % VALUES;
        if (current[variable] > greatest[variable]) {
            greatest[variable] = current[variable];
        }
    }

    private void giveBack(int lock, int thread) {
        if (holder[lock] == thread) {
            holder[lock] = NONE;
        }
    }

    private void recordRun() {
        int newKinds = isFirstOfKind() ? 1 : 0;
        runCount++;
        kindCount += newKinds;
        if (length == stepCount[0] + stepCount[1] + stepCount[2]) {
            recordComplete(newKinds);
        } else {
            recordStuck(newKinds);
        }
    }

    /**
     * Of like runs, the one with the least row of threads stands for the kind. A run is that one if
     * no step could be moved forward, past steps it is not tied to, to stand before a step of a
     * greater thread (the lexicographic normal form of traces).
     */
    private boolean isFirstOfKind() {
        for (int at = 1; at < length; at++) {
            for (int back = at - 1; back >= 0; back--) {
                if (areTied(row[back], row[at])) {
                    break;
                }
                if (row[back] > row[at]) {
                    return false;
                }
            }
        }
        return true;
    }

    private void recordComplete(int newKinds) {
        completeKinds[64 * current[0] + 8 * current[1] + current[2]] += newKinds;
        for (int thread = 0; thread < THREADS; thread++) {
            endingSet[thread] |= 1 << accumulator[thread];
        }
        int later = 0;
        for (int at = length - 1; at >= 0; at--) {
            laterSet[row[at]] |= later;
            later |= 1 << row[at];
        }
    }

    private void recordStuck(int newKinds) {
        stuckKindCount += newKinds;
        if (shortestStuckLength == 0 || length < shortestStuckLength) {
            shortestStuckLength = length;
        }
    }
}
