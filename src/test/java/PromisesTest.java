/** One method a promise, with ordinary inputs; BoundaryTest has the edges and the wrong inputs. */
public final class PromisesTest {
    private static final int READ = Due.READ;
    private static final int WRITE = Due.WRITE;
    private static final int STORE = Due.STORE;
    private static final int ADD = Due.ADD;
    private static final int LOCK = Due.LOCK;
    private static final int UNLOCK = Due.UNLOCK;

    public static void main(String[] args) {
        promise1NewObject();
        promise2Step();
        promise3Drop();
        promise4Initial();
        promise5Steps();
        promise6Runs();
        promise7Kinds();
        promise8StuckKinds();
        promise9Results();
        promise10NextResult();
        promise11KindsOf();
        promise12Peak();
        promise13Endings();
        promise14Before();
        promise15Tied();
        promise16ShortestStuck();
        operations();
        exampleOfTheReadme();
        Due.end();
    }

    private static void due(String what, long got, long want) {
        Due.due(what, got, want);
    }

    private static TraceExplorer with(int... steps) {
        return Due.with(steps);
    }

    /** Threads 0 and 1 take the two locks in opposite order and give none back. */
    private static TraceExplorer embrace() {
        return with(0, LOCK, 0, 0, LOCK + 1, 0, 1, LOCK + 1, 0, 1, LOCK, 0);
    }

    /** Both threads write within the lock; thread 1 keeps it, so that it must be the last. */
    private static TraceExplorer keeperLast() {
        return with(0, LOCK, 0, 0, WRITE, 1, 0, UNLOCK, 0, 1, LOCK, 0, 1, WRITE, 2);
    }

    private static void promise1NewObject() {
        TraceExplorer used = Due.mixed();
        due("1: a used object has steps", used.steps(0), 3);
        due("1: initial of the used one", used.initial(2, 6), 0);
        TraceExplorer x = new TraceExplorer();
        due("1: a second object has none", x.steps(0), 0);
        due("1: nor the initial value of the first", x.initial(2, 0), 0);
        due("1: the first one stays", used.initial(2, 0), 6);
        due("1: and keeps its steps", Due.answers(used), Due.answers(Due.mixed()));
    }

    private static void promise2Step() {
        TraceExplorer x = new TraceExplorer();
        for (int thread = 0; thread < 3; thread++) {
            for (int i = 1; i <= 3; i++) {
                due("2: step answers how many", x.step(thread, WRITE + thread, i), i);
            }
        }
        due("2: the last writes stay", x.nextResult(-1), 64 * 3 + 8 * 3 + 3);
    }

    private static void promise3Drop() {
        TraceExplorer x = with(0, LOCK, 0, 1, ADD, 1, 0, LOCK, 0);
        due("3: stuck", x.results(), 0);
        due("3: drop", x.drop(0), 1);
        due("3: not stuck any more", x.results(), 1);
        due("3: drop of the other", x.drop(1), 0);
        due("3: its step is gone", x.nextResult(-1), 0);
        due("3: put another", x.step(1, ADD + 2, 4), 1);
        due("3: the new one counts", x.nextResult(-1), 4);
    }

    private static void promise4Initial() {
        TraceExplorer x = with(0, READ + 1, 0);
        for (int variable = 0; variable < 3; variable++) {
            due("4: the first one before", x.initial(variable, 5), 0);
            due("4: the one before", x.initial(variable, variable + 1), 5);
        }
        due("4: all three are set", x.nextResult(-1), 64 + 8 * 2 + 3);
        due("4: the one result", x.results(), 1);
        due("4: it is read", x.endings(0), 1 << 2);
        due("4: changed", x.initial(1, 6), 2);
        due("4: the new one is read", x.endings(0), 1 << 6);
    }

    private static void promise5Steps() {
        TraceExplorer x = with(1, READ, 0, 2, READ, 0, 2, READ, 0);
        due("5: none", x.steps(0), 0);
        due("5: one", x.steps(1), 1);
        due("5: two", x.steps(2), 2);
    }

    private static void promise6Runs() {
        due("6: the same step twice", with(0, READ, 0, 2, READ, 0).runs(), 2);
        due("6: 2 + 1 + 3", with(0, READ, 0, 0, READ, 0, 1, ADD, 1, 2, READ, 0, 2, READ, 0, 2, READ, 0).runs(), 60);
        due("6: stuck runs count", embrace().runs(), 4);
        due("6: a lock around a step",
                with(0, LOCK, 0, 0, ADD, 1, 0, UNLOCK, 0, 1, LOCK, 0, 1, ADD, 2, 1, UNLOCK, 0).runs(), 2);
    }

    private static void promise7Kinds() {
        due("7: each its own variable",
                with(0, ADD, 1, 0, ADD, 1, 1, ADD + 1, 1, 1, ADD + 1, 1, 2, ADD + 2, 1).kinds(), 1);
        due("7: two reads and a write", with(0, READ, 0, 1, READ, 0, 2, WRITE, 0).kinds(), 4);
        due("7: a step moved past two", with(2, READ, 0, 0, WRITE, 1, 1, WRITE + 1, 1).kinds(), 2);
        due("7: stuck ones count", embrace().kinds(), 3);
    }

    private static void promise8StuckKinds() {
        due("8: embrace", embrace().stuckKinds(), 3);
        due("8: one thread keeps the lock", with(0, LOCK, 0, 1, LOCK, 0).stuckKinds(), 2);
        due("8: given back by another is not given back",
                with(0, LOCK, 0, 1, UNLOCK, 0, 1, LOCK, 0).stuckKinds(), 3);
        TraceExplorer x = with(0, LOCK, 0, 0, UNLOCK, 0, 1, LOCK, 0);
        due("8: stuck if the keeper is first", x.stuckKinds(), 1);
        due("8: complete otherwise", x.kinds(), 2);
        due("8: like runs count once", with(0, LOCK, 0, 0, LOCK, 0, 1, ADD, 1).stuckKinds(), 1);
    }

    private static void promise9Results() {
        due("9: writes in any order", with(0, WRITE, 1, 1, WRITE, 2, 2, WRITE, 3).results(), 3);
        due("9: the same result twice", with(0, WRITE, 1, 1, WRITE, 1).results(), 1);
        due("9: a lost sum", with(0, READ, 0, 0, STORE, 1, 1, READ, 0, 1, STORE, 1).results(), 2);
    }

    private static void promise10NextResult() {
        TraceExplorer x = with(0, WRITE, 1, 1, WRITE, 2, 2, WRITE, 7);
        due("10: the least", x.nextResult(-1), 64);
        due("10: the second", x.nextResult(64), 128);
        due("10: between", x.nextResult(129), 448);
        due("10: after the last", x.nextResult(448), -1);
        due("10: of the complete run", keeperLast().nextResult(-1), 128);
    }

    private static void promise11KindsOf() {
        TraceExplorer x = with(0, WRITE, 1, 1, WRITE, 2, 2, WRITE, 3, 2, READ + 1, 0);
        due("11: a result", x.kindsOf(64), 2);
        due("11: another", x.kindsOf(192), 2);
        due("11: no result", x.kindsOf(0), 0);
        due("11: no result", x.kindsOf(65), 0);
        TraceExplorer order = with(0, WRITE, 1, 0, WRITE + 1, 2, 0, WRITE + 2, 3);
        due("11: 64 * v0 + 8 * v1 + v2", order.kindsOf(64 + 16 + 3), 1);
    }

    private static void promise12Peak() {
        TraceExplorer x = with(0, WRITE, 5, 0, WRITE, 1, 1, ADD, 1);
        due("12: in the middle of a run", x.peak(0), 6);
        due("12: not touched", x.peak(1), 0);
        due("12: modulo 8", with(0, WRITE, 5, 0, ADD, 4).peak(0), 5);
    }

    private static void promise13Endings() {
        TraceExplorer x = with(0, READ, 0, 1, WRITE, 3, 2, WRITE, 7);
        due("13: three values", x.endings(0), 1 + (1 << 3) + (1 << 7));
        due("13: no read", x.endings(1), 1);
        due("13: a store leaves it", with(0, READ, 0, 0, STORE, 4).endings(0), 1);
        due("13: read before or after",
                with(0, LOCK, 0, 0, WRITE, 1, 0, UNLOCK, 0, 1, READ, 0, 1, LOCK, 0).endings(1), 3);
    }

    private static void promise14Before() {
        TraceExplorer x = with(0, READ, 0, 0, READ, 0, 1, READ, 0, 2, READ, 0, 2, READ, 0, 2, READ, 0);
        due("14: in a thread's order", x.before(0, 1), 1);
        due("14: against it", x.before(1, 0), 0);
        due("14: two apart", x.before(8, 10), 1);
        due("14: two threads", x.before(1, 4), 1);
        due("14: two threads, the other way", x.before(4, 1), 1);
        TraceExplorer y = keeperLast();
        due("14: the keeper is last", y.before(1, 4), 1);
        due("14: only stuck runs have this", y.before(4, 1), 0);
        due("14: next to each other", y.before(2, 4), 1);
    }

    private static void promise15Tied() {
        TraceExplorer x = with(0, READ, 0, 0, READ + 1, 0, 0, LOCK, 0, 1, READ, 0, 1, UNLOCK, 0, 1, LOCK + 1, 0,
                2, WRITE, 0, 2, STORE + 1, 0, 2, ADD + 2, 0);
        due("15: same thread", x.tied(2, 0), 1);
        due("15: two reads of a variable", x.tied(0, 4), 0);
        due("15: read and write", x.tied(0, 8), 1);
        due("15: read and store", x.tied(1, 9), 1);
        due("15: two variables", x.tied(4, 10), 0);
        due("15: lock and unlock", x.tied(2, 5), 1);
        due("15: two locks", x.tied(2, 6), 0);
        due("15: lock 0 and variable 0", x.tied(2, 8), 0);
    }

    private static void promise16ShortestStuck() {
        due("16: embrace", embrace().shortestStuck(), 2);
        due("16: the keeper first", keeperLast().shortestStuck(), 2);
        due("16: others go on", with(0, LOCK, 0, 0, LOCK, 0, 1, ADD, 1, 1, ADD, 1, 1, ADD, 1).shortestStuck(), 4);
    }

    private static void operations() {
        due("READ", with(0, WRITE + 1, 6, 0, READ + 1, 3).endings(0), 1 << 6);
        due("WRITE", with(0, WRITE + 2, 6).nextResult(-1), 6);
        due("STORE", with(0, WRITE, 2, 0, READ, 0, 0, STORE + 1, 3).nextResult(-1), 64 * 2 + 8 * 5);
        due("STORE of a fresh accumulator", with(0, STORE + 1, 5).nextResult(-1), 8 * 5);
        due("ADD", with(0, WRITE, 2, 0, ADD, 4).nextResult(-1), 64 * 6);
        due("LOCK and UNLOCK", with(0, LOCK + 1, 0, 0, UNLOCK + 1, 0, 0, LOCK + 1, 0).stuckKinds(), 0);
    }

    /** README.md shows these calls with these answers, one after the other. */
    private static void exampleOfTheReadme() {
        TraceExplorer x = new TraceExplorer();
        due("README: step", x.step(0, 8 * 0 + 0, 0), 1);
        due("README: step", x.step(0, 8 * 2 + 0, 1), 2);
        due("README: step", x.step(1, 8 * 3 + 0, 2), 1);
        due("README: runs", x.runs(), 3);
        due("README: kinds", x.kinds(), 3);
        due("README: results", x.results(), 2);
        due("README: nextResult", x.nextResult(-1), 64);
        due("README: nextResult", x.nextResult(64), 192);
        due("README: nextResult", x.nextResult(192), -1);
        due("README: kindsOf", x.kindsOf(192), 2);
        due("README: endings", x.endings(0), 5);
        due("README: before", x.before(4, 1), 1);
        due("README: step", x.step(1, 8 * 6 + 0, 0), -2);
    }
}
