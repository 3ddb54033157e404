/** One method a promise: ordinary inputs, the edges that the document names, and wrong inputs. */
public final class PromisesTest {
    private static final int READ = 0;
    private static final int WRITE = 8;
    private static final int STORE = 16;
    private static final int ADD = 24;
    private static final int LOCK = 32;
    private static final int UNLOCK = 40;

    private static int wrong = 0;

    public static void main(String[] args) {
        promise1NewObject();
        promise2StepRefusals();
        promise2StepPutsAtTheEnd();
        promise3Drop();
        promise4Initial();
        promise5Steps();
        promise6Runs();
        promise7Kinds();
        promise8StuckKinds();
        promise9Results();
        promise10NextResult();
        promise11KindsOf();
        promise12Peak();
        promise13Endings();
        promise14Before();
        promise15Tied();
        promise15PairRefusals();
        promise16ShortestStuck();
        operations();
        refusedCallsChangeNothing();
        questionsChangeNothing();
        objectsAreApart();
        System.out.println(wrong == 0 ? "all answers are as due" : wrong + " answers are not as due");
        if (wrong != 0) {
            System.exit(1);
        }
    }

    private static void due(String what, long got, long want) {
        if (got != want) {
            wrong++;
            System.out.println(what + " answered " + got + ", due is " + want);
        }
    }

    /** A new object with the steps given as thread, what, k, thread, what, k, ... */
    private static TraceExplorer with(int... steps) {
        TraceExplorer x = new TraceExplorer();
        for (int i = 0; i < steps.length; i += 3) {
            int answer = x.step(steps[i], steps[i + 1], steps[i + 2]);
            if (answer < 1) {
                due("step for a test", answer, 1);
            }
        }
        return x;
    }

    /** Threads 0 and 1 take the two locks in opposite order and give none back. */
    private static TraceExplorer embrace() {
        return with(0, LOCK, 0, 0, LOCK + 1, 0, 1, LOCK + 1, 0, 1, LOCK, 0);
    }

    private static TraceExplorer full(int what, int k) {
        return with(0, what, k, 0, what, k, 0, what, k, 1, what, k, 1, what, k, 1, what, k,
                2, what, k, 2, what, k, 2, what, k);
    }

    private static void promise1NewObject() {
        TraceExplorer x = new TraceExplorer();
        for (int i = 0; i < 3; i++) {
            due("1: steps", x.steps(i), 0);
            due("1: peak", x.peak(i), 0);
            due("1: endings", x.endings(i), 1);
        }
        due("1: runs", x.runs(), 1);
        due("1: kinds", x.kinds(), 1);
        due("1: stuckKinds", x.stuckKinds(), 0);
        due("1: results", x.results(), 1);
        due("1: kindsOf", x.kindsOf(0), 1);
        due("1: nextResult", x.nextResult(-1), 0);
        due("1: shortestStuck", x.shortestStuck(), 0);
        for (int i = 0; i < 3; i++) {
            due("1: initial", x.initial(i, 0), 0);
        }
    }

    private static void promise2StepRefusals() {
        TraceExplorer x = new TraceExplorer();
        int[] badThreads = {-1, 3, 4, Integer.MIN_VALUE, Integer.MAX_VALUE};
        for (int thread : badThreads) {
            due("2: step, thread " + thread, x.step(thread, 0, 0), -1);
            due("2: thread before what", x.step(thread, -1, 8), -1);
        }
        for (int what = -70; what < 130; what++) {
            boolean good = what >= 0 && what < 48 && what % 8 < (what < 32 ? 3 : 2);
            due("2: step, what " + what, x.step(0, what, 0), good ? 1 : -2);
            due("2: what before k", x.step(1, what, 8), good ? -3 : -2);
            if (good) {
                due("2: drop", x.drop(0), 0);
            }
        }
        due("2: least what", x.step(0, Integer.MIN_VALUE, 0), -2);
        due("2: greatest what", x.step(0, Integer.MAX_VALUE, 0), -2);
        int[] badNumbers = {-1, 8, Integer.MIN_VALUE, Integer.MAX_VALUE};
        for (int what = 0; what < 48; what += 8) {
            for (int k : badNumbers) {
                due("2: step, what " + what + ", k " + k, x.step(0, what, k), -3);
            }
            due("2: k 7", x.step(0, what, 7), 1);
            due("2: drop", x.drop(0), 0);
        }
        due("2: nothing was put", x.steps(0) + x.steps(1) + x.steps(2), 0);
    }

    private static void promise2StepPutsAtTheEnd() {
        TraceExplorer x = new TraceExplorer();
        for (int thread = 0; thread < 3; thread++) {
            for (int i = 1; i <= 3; i++) {
                due("2: step answers how many", x.step(thread, WRITE + thread, i), i);
            }
            due("2: a full thread", x.step(thread, WRITE, 0), -4);
            due("2: what before full", x.step(thread, 3, 0), -2);
            due("2: k before full", x.step(thread, WRITE, 8), -3);
        }
        due("2: the last write stays", x.nextResult(-1), 64 * 3 + 8 * 3 + 3);
    }

    private static void promise3Drop() {
        TraceExplorer x = with(0, WRITE, 1, 0, WRITE, 2, 0, WRITE, 3, 1, WRITE + 1, 5);
        int[] badThreads = {-1, 3, Integer.MIN_VALUE, Integer.MAX_VALUE};
        for (int thread : badThreads) {
            due("3: drop, thread " + thread, x.drop(thread), -1);
        }
        due("3: a thread without steps", x.drop(2), -2);
        due("3: result of all", x.nextResult(-1), 64 * 3 + 8 * 5);
        due("3: drop", x.drop(0), 2);
        due("3: the last one is gone", x.nextResult(-1), 64 * 2 + 8 * 5);
        due("3: drop", x.drop(0), 1);
        due("3: the last one is gone", x.nextResult(-1), 64 * 1 + 8 * 5);
        due("3: drop", x.drop(0), 0);
        due("3: the last one is gone", x.nextResult(-1), 8 * 5);
        due("3: drop of none", x.drop(0), -2);
        due("3: the other thread", x.steps(1), 1);
        due("3: put again", x.step(0, ADD, 7), 1);
        due("3: the new one counts", x.nextResult(-1), 64 * 7 + 8 * 5);
    }

    private static void promise4Initial() {
        TraceExplorer x = new TraceExplorer();
        int[] bad = {-1, 3, Integer.MIN_VALUE, Integer.MAX_VALUE};
        for (int variable : bad) {
            due("4: initial, variable " + variable, x.initial(variable, 0), -1);
            due("4: variable before value", x.initial(variable, 8), -1);
        }
        int[] badValues = {-1, 8, Integer.MIN_VALUE, Integer.MAX_VALUE};
        for (int value : badValues) {
            due("4: initial, value " + value, x.initial(2, value), -2);
        }
        for (int variable = 0; variable < 3; variable++) {
            due("4: the first one before", x.initial(variable, 7), 0);
            due("4: the one before", x.initial(variable, variable + 1), 7);
        }
        due("4: all three are set", x.nextResult(-1), 64 + 8 * 2 + 3);
        due("4: the one result", x.results(), 1);
        due("4: step", x.step(0, READ + 1, 0), 1);
        due("4: read of an initial value", x.endings(0), 1 << 2);
        due("4: initial after a step", x.initial(1, 6), 2);
        due("4: read of the new one", x.endings(0), 1 << 6);
    }

    private static void promise5Steps() {
        TraceExplorer x = with(1, READ, 0, 2, READ, 0, 2, READ, 0);
        due("5: none", x.steps(0), 0);
        due("5: one", x.steps(1), 1);
        due("5: two", x.steps(2), 2);
        due("5: thread -1", x.steps(-1), -1);
        due("5: thread 3", x.steps(3), -1);
        due("5: least", x.steps(Integer.MIN_VALUE), -1);
        due("5: greatest", x.steps(Integer.MAX_VALUE), -1);
    }

    private static void promise6Runs() {
        due("6: the most there can be", full(READ, 0).runs(), 1680);
        due("6: one thread", with(1, READ, 0, 1, WRITE, 0, 1, ADD, 0).runs(), 1);
        due("6: the same step twice", with(0, READ, 0, 2, READ, 0).runs(), 2);
        due("6: 2 + 1 + 3", with(0, READ, 0, 0, READ, 0, 1, ADD, 1, 2, READ, 0, 2, READ, 0, 2, READ, 0).runs(), 60);
        due("6: stuck runs count", embrace().runs(), 4);
        due("6: a lock for good", with(0, LOCK, 0, 1, LOCK, 0, 2, LOCK, 0).runs(), 3);
        due("6: a lock around a step",
                with(0, LOCK, 0, 0, ADD, 1, 0, UNLOCK, 0, 1, LOCK, 0, 1, ADD, 2, 1, UNLOCK, 0).runs(), 2);
    }

    private static void promise7Kinds() {
        due("7: only reads", full(READ, 0).kinds(), 1);
        due("7: all on one variable", full(WRITE, 0).kinds(), 1680);
        due("7: all on one lock, never held", full(UNLOCK + 1, 0).kinds(), 1680);
        due("7: each its own variable", with(0, ADD, 1, 0, ADD, 1, 1, ADD + 1, 1, 1, ADD + 1, 1, 2, ADD + 2, 1).kinds(), 1);
        due("7: a read and a write", with(0, READ, 0, 1, WRITE, 0).kinds(), 2);
        due("7: two reads and a write", with(0, READ, 0, 1, READ, 0, 2, WRITE, 0).kinds(), 4);
        due("7: a lock is no variable", with(0, UNLOCK + 1, 0, 1, WRITE + 1, 0).kinds(), 1);
        due("7: a step moved past two", with(2, READ, 0, 0, WRITE, 1, 1, WRITE + 1, 1).kinds(), 2);
        due("7: stuck ones count", embrace().kinds(), 3);
    }

    private static void promise8StuckKinds() {
        due("8: none", full(ADD, 1).stuckKinds(), 0);
        due("8: a thread waits for itself", with(0, LOCK, 0, 0, LOCK, 0).stuckKinds(), 1);
        due("8: embrace", embrace().stuckKinds(), 3);
        due("8: one thread keeps the lock", with(0, LOCK, 0, 1, LOCK, 0).stuckKinds(), 2);
        due("8: given back by another is not given back",
                with(0, LOCK, 0, 1, UNLOCK, 0, 1, LOCK, 0).stuckKinds(), 3);
        TraceExplorer x = with(0, LOCK, 0, 0, UNLOCK, 0, 1, LOCK, 0);
        due("8: stuck if the keeper is first", x.stuckKinds(), 1);
        due("8: complete otherwise", x.kinds(), 2);
        due("8: like runs count once", with(0, LOCK, 0, 0, LOCK, 0, 1, ADD, 1).stuckKinds(), 1);
        due("8: a held lock at the end is no fault", with(0, LOCK, 0, 1, LOCK + 1, 0).stuckKinds(), 0);
    }

    private static void promise9Results() {
        due("9: writes in any order", with(0, WRITE, 1, 1, WRITE, 2, 2, WRITE, 3).results(), 3);
        due("9: the same result twice", with(0, WRITE, 1, 1, WRITE, 1).results(), 1);
        due("9: sums do not care", full(ADD, 3).results(), 1);
        due("9: stuck runs do not count", with(0, WRITE, 1, 0, LOCK, 0, 0, LOCK, 0).results(), 0);
        TraceExplorer x = with(0, LOCK, 0, 0, WRITE, 1, 0, UNLOCK, 0, 1, LOCK, 0, 1, WRITE, 2);
        due("9: only where the keeper is last", x.results(), 1);
        due("9: and it is this", x.nextResult(-1), 128);
    }

    private static void promise10NextResult() {
        TraceExplorer x = with(0, WRITE, 1, 1, WRITE, 2, 2, WRITE, 7);
        due("10: from below", x.nextResult(Integer.MIN_VALUE), 64);
        due("10: from -1", x.nextResult(-1), 64);
        due("10: just below", x.nextResult(63), 64);
        due("10: greater, not equal", x.nextResult(64), 128);
        due("10: between", x.nextResult(129), 448);
        due("10: the last", x.nextResult(448), -1);
        due("10: past all", x.nextResult(512), -1);
        due("10: greatest int", x.nextResult(Integer.MAX_VALUE), -1);
        TraceExplorer top = new TraceExplorer();
        for (int variable = 0; variable < 3; variable++) {
            due("10: initial", top.initial(variable, 7), 0);
        }
        due("10: 511 is found", top.nextResult(510), 511);
        due("10: after 511", top.nextResult(511), -1);
        due("10: no complete run", with(0, LOCK, 0, 0, LOCK, 0).nextResult(-1), -1);
        TraceExplorer zero = with(0, WRITE, 0, 1, WRITE, 1);
        due("10: 0 is a result", zero.nextResult(-1), 0);
        due("10: after 0", zero.nextResult(0), 64);
    }

    private static void promise11KindsOf() {
        TraceExplorer x = with(0, WRITE, 1, 1, WRITE, 2, 2, WRITE, 3);
        for (int result = 0; result < 512; result++) {
            boolean has = result == 64 || result == 128 || result == 192;
            due("11: kindsOf " + result, x.kindsOf(result), has ? 2 : 0);
        }
        due("11: -1", x.kindsOf(-1), -1);
        due("11: 512", x.kindsOf(512), -1);
        due("11: least", x.kindsOf(Integer.MIN_VALUE), -1);
        due("11: greatest", x.kindsOf(Integer.MAX_VALUE), -1);
        due("11: kinds, not runs", full(READ, 0).kindsOf(0), 1);
        due("11: all kinds of one result", full(ADD, 0).kindsOf(0), 1680);
        due("11: stuck ones do not count", with(0, LOCK, 0, 0, LOCK, 0).kindsOf(0), 0);
        TraceExplorer order = with(0, WRITE, 1, 0, WRITE + 1, 2, 0, WRITE + 2, 3);
        due("11: 64 * v0 + 8 * v1 + v2", order.kindsOf(64 + 16 + 3), 1);
    }

    private static void promise12Peak() {
        TraceExplorer x = with(0, WRITE, 5, 0, WRITE, 1, 1, ADD, 1);
        due("12: in the middle of a run", x.peak(0), 6);
        due("12: not touched", x.peak(1), 0);
        due("12: variable -1", x.peak(-1), -1);
        due("12: variable 3", x.peak(3), -1);
        due("12: least", x.peak(Integer.MIN_VALUE), -1);
        due("12: greatest", x.peak(Integer.MAX_VALUE), -1);
        due("12: initial", x.initial(0, 7), 0);
        due("12: the beginning is a time", x.peak(0), 7);
        due("12: set back", x.initial(0, 0), 7);
        due("12: and gone", x.peak(0), 6);
        due("12: modulo 8", with(0, WRITE, 5, 0, ADD, 4).peak(0), 5);
        due("12: stuck runs count", with(0, LOCK, 0, 0, WRITE + 2, 4, 0, LOCK, 0).peak(2), 4);
        due("12: what no run takes does not", with(0, LOCK, 0, 0, LOCK, 0, 0, WRITE + 2, 4).peak(2), 0);
        TraceExplorer y = with(0, WRITE + 1, 3);
        due("12: written", y.peak(1), 3);
        due("12: drop", y.drop(0), 0);
        due("12: no more written", y.peak(1), 0);
    }

    private static void promise13Endings() {
        TraceExplorer x = with(0, READ, 0, 1, WRITE, 3, 2, WRITE, 7);
        due("13: three values", x.endings(0), 1 + (1 << 3) + (1 << 7));
        due("13: no read", x.endings(1), 1);
        due("13: thread -1", x.endings(-1), -1);
        due("13: thread 3", x.endings(3), -1);
        due("13: least", x.endings(Integer.MIN_VALUE), -1);
        due("13: greatest", x.endings(Integer.MAX_VALUE), -1);
        due("13: the last read counts", with(0, READ, 0, 0, WRITE, 4, 0, READ, 0).endings(0), 1 << 4);
        due("13: a store leaves it", with(0, READ, 0, 0, STORE, 4).endings(0), 1);
        due("13: no complete run", with(0, LOCK, 0, 0, LOCK, 0).endings(0), 0);
        due("13: no complete run, other thread", with(0, LOCK, 0, 0, LOCK, 0).endings(1), 0);
        due("13: stuck runs do not count",
                with(0, LOCK, 0, 0, WRITE, 1, 0, UNLOCK, 0, 1, READ, 0, 1, LOCK, 0).endings(1), 3);
        due("13: stuck runs do not count",
                with(0, LOCK, 0, 0, WRITE, 1, 0, UNLOCK, 0, 1, LOCK, 0, 1, READ, 0).endings(1), 2);
    }

    private static void promise14Before() {
        TraceExplorer x = with(0, READ, 0, 0, READ, 0, 1, READ, 0, 2, READ, 0, 2, READ, 0, 2, READ, 0);
        due("14: in a thread's order", x.before(0, 1), 1);
        due("14: against it", x.before(1, 0), 0);
        due("14: two apart", x.before(8, 10), 1);
        due("14: two apart, against", x.before(10, 8), 0);
        due("14: two threads", x.before(1, 4), 1);
        due("14: two threads", x.before(4, 1), 1);
        due("14: two threads", x.before(10, 0), 1);
        TraceExplorer y = with(0, LOCK, 0, 0, WRITE, 1, 0, UNLOCK, 0, 1, LOCK, 0, 1, READ, 0);
        due("14: the keeper is last", y.before(1, 4), 1);
        due("14: only stuck runs have this", y.before(4, 1), 0);
        due("14: only stuck runs have this", y.before(4, 0), 0);
        due("14: next to each other", y.before(2, 4), 1);
        TraceExplorer z = with(0, LOCK, 0, 0, LOCK, 0);
        due("14: no complete run", z.before(0, 1), 0);
        due("14: drop", z.drop(0), 1);
        due("14: no such step any more", z.before(0, 1), -2);
        TraceExplorer gone = with(0, READ, 0, 1, READ, 0, 2, LOCK, 0);
        due("14: while there are complete runs", gone.before(0, 4), 1);
        due("14: step", gone.step(2, LOCK, 0), 2);
        due("14: when there are none any more", gone.before(0, 4), 0);
    }

    private static void promise15Tied() {
        TraceExplorer x = with(0, READ, 0, 0, READ + 1, 0, 0, LOCK, 0, 1, READ, 0, 1, UNLOCK, 0, 1, LOCK + 1, 0,
                2, WRITE, 0, 2, STORE + 1, 0, 2, ADD + 2, 0);
        due("15: same thread", x.tied(0, 1), 1);
        due("15: same thread", x.tied(2, 0), 1);
        due("15: two reads of a variable", x.tied(0, 4), 0);
        due("15: read and write", x.tied(0, 8), 1);
        due("15: write and read", x.tied(8, 4), 1);
        due("15: read and store", x.tied(1, 9), 1);
        due("15: two variables", x.tied(0, 9), 0);
        due("15: two variables", x.tied(4, 10), 0);
        due("15: lock and unlock", x.tied(2, 5), 1);
        due("15: unlock and lock", x.tied(5, 2), 1);
        due("15: two locks", x.tied(2, 6), 0);
        due("15: lock 0 and variable 0", x.tied(2, 8), 0);
        due("15: variable 0 and lock 0", x.tied(4, 2), 0);
        due("15: lock 1 and variable 1", x.tied(6, 9), 0);
        int[] changing = {WRITE, STORE, ADD};
        for (int one : changing) {
            for (int other : changing) {
                TraceExplorer y = with(0, one + 2, 0, 2, other + 2, 0, 1, other, 0);
                due("15: what " + one + " and " + other, y.tied(0, 8), 1);
                due("15: what " + one + " and " + other + ", two variables", y.tied(0, 4), 0);
            }
        }
        due("15: two unlocks", with(0, UNLOCK, 0, 1, UNLOCK, 0).tied(0, 4), 1);
        due("15: two locks", with(0, LOCK, 0, 1, LOCK, 0).tied(0, 4), 1);
    }

    /** The refusals of before are those of tied. */
    private static void promise15PairRefusals() {
        TraceExplorer x = with(0, READ, 0, 0, READ, 0, 0, READ, 0, 2, WRITE, 0);
        int[][] rows = {
            {-1, 0, -1}, {0, -1, -1}, {-4, 0, -1}, {-3, 8, -1}, {12, 0, -1}, {0, 12, -1}, {13, 13, -1},
            {-1, -1, -1}, {3, -1, -1}, {12, 3, -1}, {4, 12, -1},
            {Integer.MIN_VALUE, 0, -1}, {0, Integer.MAX_VALUE, -1}, {Integer.MAX_VALUE, Integer.MIN_VALUE, -1},
            {3, 0, -2}, {0, 3, -2}, {3, 3, -2}, {4, 4, -2}, {4, 0, -2}, {8, 9, -2}, {11, 8, -2}, {7, 0, -2},
            {0, 0, -3}, {2, 2, -3}, {8, 8, -3},
        };
        for (int[] row : rows) {
            due("14: before(" + row[0] + ", " + row[1] + ")", x.before(row[0], row[1]), row[2]);
            due("15: tied(" + row[0] + ", " + row[1] + ")", x.tied(row[0], row[1]), row[2]);
        }
    }

    private static void promise16ShortestStuck() {
        due("16: none", full(ADD, 1).shortestStuck(), 0);
        due("16: the empty run is complete", new TraceExplorer().shortestStuck(), 0);
        due("16: one step", with(2, LOCK, 0, 2, LOCK, 0).shortestStuck(), 1);
        due("16: embrace", embrace().shortestStuck(), 2);
        due("16: the shortest, not the first",
                with(0, LOCK, 0, 0, ADD, 1, 0, ADD, 1, 1, LOCK, 0, 1, LOCK, 0).shortestStuck(), 1);
        due("16: the shortest, not the last",
                with(1, LOCK, 0, 1, ADD, 1, 1, ADD, 1, 0, LOCK, 0, 0, LOCK, 0).shortestStuck(), 1);
        due("16: others go on", with(0, LOCK, 0, 0, LOCK, 0, 1, ADD, 1, 1, ADD, 1, 1, ADD, 1).shortestStuck(), 4);
    }

    private static void operations() {
        due("READ", with(0, WRITE + 1, 6, 0, READ + 1, 3).endings(0), 1 << 6);
        due("WRITE", with(0, WRITE + 2, 6).nextResult(-1), 6);
        due("STORE of a fresh accumulator", with(0, STORE + 1, 5).nextResult(-1), 8 * 5);
        due("STORE modulo 8", with(0, WRITE, 6, 0, READ, 0, 0, STORE + 1, 7).nextResult(-1), 64 * 6 + 8 * 5);
        due("ADD modulo 8", with(0, WRITE, 6, 0, ADD, 7).nextResult(-1), 64 * 5);
        due("each thread has its own accumulator",
                with(0, WRITE, 6, 0, READ, 0, 1, STORE + 1, 1).kindsOf(64 * 6 + 8), 1);
        due("every run begins with accumulators of 0",
                with(0, STORE + 1, 0, 0, READ, 0, 1, WRITE, 3, 2, WRITE, 3).results(), 1);
        due("UNLOCK gives back", with(0, LOCK + 1, 0, 0, UNLOCK + 1, 0, 0, LOCK + 1, 0).stuckKinds(), 0);
        due("UNLOCK of the other lock", with(0, LOCK + 1, 0, 0, UNLOCK, 0, 0, LOCK + 1, 0).stuckKinds(), 1);
        due("UNLOCK of a lock not held", with(0, UNLOCK, 0, 0, UNLOCK, 0, 0, LOCK, 0).stuckKinds(), 0);
    }

    private static long answers(TraceExplorer x) {
        long sum = 17;
        sum = sum * 31 + x.runs();
        sum = sum * 31 + x.kinds();
        sum = sum * 31 + x.stuckKinds();
        sum = sum * 31 + x.results();
        sum = sum * 31 + x.shortestStuck();
        int result = x.nextResult(-1);
        for (int i = 0; i < 8; i++) {
            sum = sum * 31 + result;
            sum = sum * 31 + x.kindsOf(result);
            result = x.nextResult(result);
        }
        for (int i = 0; i < 3; i++) {
            sum = sum * 31 + x.steps(i);
            sum = sum * 31 + x.peak(i);
            sum = sum * 31 + x.endings(i);
        }
        for (int first = 0; first < 12; first += 3) {
            for (int second = 0; second < 12; second++) {
                sum = sum * 31 + x.before(first, second);
                sum = sum * 31 + x.tied(first, second);
            }
        }
        return sum;
    }

    private static TraceExplorer mixed() {
        return with(0, LOCK, 0, 0, READ, 0, 0, STORE, 1, 1, READ, 0, 1, LOCK, 0, 1, UNLOCK, 0, 2, ADD, 2);
    }

    private static void refusedCallsChangeNothing() {
        TraceExplorer x = mixed();
        x.step(-1, 0, 0);
        x.step(3, 0, 0);
        x.step(2, 35, 0);
        x.step(2, -8, 0);
        x.step(2, 8, 8);
        x.step(2, 8, -1);
        x.step(0, 8, 1);
        x.drop(-1);
        x.drop(3);
        x.initial(-1, 1);
        x.initial(3, 1);
        x.initial(0, -1);
        x.initial(0, 8);
        due("after refused calls", answers(x), answers(mixed()));
        due("after a refused initial", x.initial(0, 1), 0);
        TraceExplorer empty = new TraceExplorer();
        empty.drop(0);
        due("after a refused drop", answers(empty), answers(new TraceExplorer()));
        due("a step after a refused drop", empty.step(0, WRITE, 1), 1);
    }

    private static void questionsChangeNothing() {
        TraceExplorer x = mixed();
        long once = answers(x);
        due("asked again", answers(x), once);
        x.step(2, WRITE, 5);
        TraceExplorer y = mixed();
        y.step(2, WRITE, 5);
        due("asked before and not asked before", answers(x), answers(y));
        x.drop(2);
        due("a step put and taken away", answers(x), once);
        x.initial(0, 3);
        x.initial(0, 0);
        due("an initial value set and set back", answers(x), once);
    }

    private static void objectsAreApart() {
        TraceExplorer one = mixed();
        TraceExplorer other = new TraceExplorer();
        due("a second object is new", answers(other), answers(new TraceExplorer()));
        due("the first one stays", answers(one), answers(mixed()));
    }
}
