/**
 * One test for each sentence of the document that names a boundary case: too small, too large, empty,
 * full, a wrap-around, a refused call. The rows of `main` quote the sentences in the document's order.
 */
public final class BoundaryTest {
    private static final int READ = Due.READ;
    private static final int WRITE = Due.WRITE;
    private static final int STORE = Due.STORE;
    private static final int ADD = Due.ADD;
    private static final int LOCK = Due.LOCK;
    private static final int UNLOCK = Due.UNLOCK;

    private static final int LEAST = Integer.MIN_VALUE;
    private static final int GREATEST = Integer.MAX_VALUE;

    /** Neither a thread nor a variable, though some would be if only their low bits were looked at. */
    private static final int[] NOT_GOOD = {-1, 3, 4, -2, -3, 8, 256, 65536, 1 << 30, LEAST, LEAST + 1, GREATEST};
    private static final int[] NOT_A_VALUE = {-1, 8, -8, 9, 16, 256, 65536, LEAST, GREATEST};

    private static String words = "";

    public static void main(String[] args) {
        what();
        terms();
        changes();
        countingQuestions();
        otherQuestions();
        Due.end();
    }

    private static void what() {
        sentence("An object is used for at most 512 calls", BoundaryTest::theLastCallStillAnswers);
    }

    private static void terms() {
        sentence("three THREADS, each a list of at most 3 STEPS, empty at first", BoundaryTest::threadsFillAndEmpty);
        sentence("values 0 .. 7 (arithmetic on them is modulo 8): STORE", BoundaryTest::storeWrapsAround);
        sentence("values 0 .. 7 (arithmetic on them is modulo 8): ADD", BoundaryTest::addWrapsAround);
        sentence("two LOCKS, 0 and 1", BoundaryTest::locksAreApart);
        sentence("LOCK: only while no thread holds the lock", BoundaryTest::aHeldLockIsNotTaken);
        sentence("UNLOCK: otherwise nothing happens", BoundaryTest::unlockOfALockNotHeld);
        sentence("At the beginning every variable has its INITIAL value (0 at first)", BoundaryTest::runsBeginWithInitialValues);
        sentence("At the beginning every accumulator is 0", BoundaryTest::runsBeginWithEmptyAccumulators);
        sentence("At the beginning no lock is held", BoundaryTest::runsBeginWithFreeLocks);
        sentence("at the end no thread can take a further step", BoundaryTest::aRunGoesOnWhileItCan);
        sentence("COMPLETE if all steps of all threads are in it, otherwise STUCK", BoundaryTest::oneStepMissingIsStuck);
        sentence("THE RESULT is 64 * v0 + 8 * v1 + v2", BoundaryTest::leastAndGreatestResult);
        sentence("the same variable, not both of them READ", BoundaryTest::twoReadsAreNotTied);
        sentence("LIKE if they have the same steps", BoundaryTest::otherStepsAreAnotherKind);
        sentence("No question changes anything", BoundaryTest::questionsChangeNothing);
        sentence("A refused call changes nothing: step", BoundaryTest::refusedStepChangesNothing);
        sentence("A refused call changes nothing: drop", BoundaryTest::refusedDropChangesNothing);
        sentence("A refused call changes nothing: initial", BoundaryTest::refusedInitialChangesNothing);
        sentence("A refused call changes nothing: the questions", BoundaryTest::refusedQuestionsChangeNothing);
        sentence("the tests are made in the order named: step", BoundaryTest::orderOfTestsInStep);
        sentence("the tests are made in the order named: drop", BoundaryTest::orderOfTestsInDrop);
        sentence("the tests are made in the order named: initial", BoundaryTest::orderOfTestsInInitial);
        sentence("the tests are made in the order named: before", BoundaryTest::orderOfTestsInBefore);
        sentence("the tests are made in the order named: tied", BoundaryTest::orderOfTestsInTied);
        sentence("a thread or variable is good if it is 0 .. 2", BoundaryTest::goodOnes);
    }

    private static void changes() {
        sentence("1: No steps", BoundaryTest::newObjectHasNoSteps);
        sentence("1: all initial values are 0", BoundaryTest::newObjectHasZeros);
        sentence("2: Puts a step at the end of a thread", BoundaryTest::stepGoesToTheEnd);
        sentence("2: operation 0 .. 5 and place 0 .. 2, or 0 .. 1 for 4 and 5", BoundaryTest::everyGoodWhat);
        sentence("2: -1 if thread is not good", BoundaryTest::stepOfNoThread);
        sentence("2: -2 if what is not such a number", BoundaryTest::stepOfNoWhat);
        sentence("2: -3 if k is not in 0 .. 7", BoundaryTest::stepOfNoValue);
        sentence("2: -4 if the thread has 3 steps", BoundaryTest::stepOfAFullThread);
        sentence("2: otherwise answers how many it has now", BoundaryTest::stepAnswersHowMany);
        sentence("3: Takes the last step of a thread away", BoundaryTest::dropTakesTheLast);
        sentence("3: -1 if thread is not good", BoundaryTest::dropOfNoThread);
        sentence("3: -2 if it has none", BoundaryTest::dropOfAnEmptyThread);
        sentence("3: otherwise answers how many are left", BoundaryTest::dropAnswersHowMany);
        sentence("4: -1 if variable is not good", BoundaryTest::initialOfNoVariable);
        sentence("4: -2 if value is not in 0 .. 7", BoundaryTest::initialOfNoValue);
        sentence("4: otherwise answers the one before", BoundaryTest::initialAnswersTheOneBefore);
        sentence("5: How many steps a thread has", BoundaryTest::stepsFromNoneToThree);
        sentence("5: -1 if it is not good", BoundaryTest::stepsOfNoThread);
    }

    private static void countingQuestions() {
        sentence("6: How many runs there are", BoundaryTest::fewestAndMostRuns);
        sentence("7: How many kinds of runs there are", BoundaryTest::fewestAndMostKinds);
        sentence("8: How many kinds of stuck runs there are", BoundaryTest::fewestAndMostStuckKinds);
        sentence("9: different results of complete runs", BoundaryTest::resultsOfCompleteRunsAlone);
        sentence("10: greater than after", BoundaryTest::nextResultIsGreater);
        sentence("10: (any int)", BoundaryTest::nextResultOfAnyInt);
        sentence("10: -1 if there is none", BoundaryTest::nextResultOfNone);
        sentence("10: of a complete run", BoundaryTest::nextResultOfCompleteRunsAlone);
        sentence("11: How many kinds of complete runs have the result", BoundaryTest::kindsOfEveryResult);
        sentence("11: -1 if result is not in 0 .. 511", BoundaryTest::kindsOfNoResult);
    }

    private static void otherQuestions() {
        sentence("12: at any time", BoundaryTest::peakAtAnyTime);
        sentence("12: in any run", BoundaryTest::peakInAnyRun);
        sentence("12: -1 if variable is not good", BoundaryTest::peakOfNoVariable);
        sentence("13: the sum of 2^value", BoundaryTest::endingsFromFirstToLastValue);
        sentence("13: at the end of complete runs", BoundaryTest::endingsOfCompleteRunsAlone);
        sentence("13: -1 if thread is not good", BoundaryTest::endingsOfNoThread);
        sentence("14: some complete run", BoundaryTest::beforeInCompleteRunsAlone);
        sentence("14: -1 if s or t is not good", BoundaryTest::beforeOfNoThread);
        sentence("14: -2 if there is no such step (steps are numbered from 0)", BoundaryTest::beforeOfNoStep);
        sentence("14: -3 if the two steps are the same", BoundaryTest::beforeOfTheSameStep);
        sentence("14: (a negative number is the case of -1)", BoundaryTest::beforeOfNegativeNumbers);
        sentence("15: 1 if the two steps are tied, otherwise 0", BoundaryTest::tiedOfEveryPairOfOperations);
        sentence("15: refusals as in before", BoundaryTest::tiedRefusesAsBefore);
        sentence("16: The length of the shortest stuck run", BoundaryTest::shortestAndLongestStuck);
        sentence("16: 0 if there is none", BoundaryTest::noStuckRun);
        sentence("16: (The empty run is complete.)", BoundaryTest::theEmptyRunIsComplete);
    }

    private static void sentence(String quoted, Runnable test) {
        words = quoted;
        test.run();
    }

    private static void due(String what, long got, long want) {
        Due.due("\"" + words + "\": " + what, got, want);
    }

    private static TraceExplorer with(int... steps) {
        return Due.with(steps);
    }

    // The whole object.

    private static void theLastCallStillAnswers() {
        TraceExplorer x = new TraceExplorer();
        for (int call = 1; call <= 508; call += 4) {
            due("step, call " + call, x.step(2, WRITE, 5), 1);
            due("nextResult, call " + (call + 1), x.nextResult(0), 320);
            due("drop, call " + (call + 2), x.drop(2), 0);
            due("nextResult, call " + (call + 3), x.nextResult(0), -1);
        }
        due("initial, call 509", x.initial(1, 7), 0);
        due("step, call 510", x.step(0, ADD + 1, 2), 1);
        due("peak, call 511", x.peak(1), 7);
        due("kindsOf, call 512", x.kindsOf(8), 1);
    }

    // The terms.

    private static void threadsFillAndEmpty() {
        TraceExplorer x = new TraceExplorer();
        for (int thread = 0; thread < 3; thread++) {
            due("steps at first", x.steps(thread), 0);
        }
        for (int thread = 0; thread < 3; thread++) {
            for (int i = 1; i <= 3; i++) {
                due("step", x.step(thread, READ, 0), i);
            }
            due("a fourth step", x.step(thread, READ, 0), -4);
            due("steps after it", x.steps(thread), 3);
        }
        for (int thread = 0; thread < 3; thread++) {
            for (int i = 2; i >= 0; i--) {
                due("drop", x.drop(thread), i);
            }
            due("a fourth drop", x.drop(thread), -2);
            due("steps after it", x.steps(thread), 0);
        }
        due("empty again", Due.answers(x), Due.answers(new TraceExplorer()));
    }

    private static void storeWrapsAround() {
        for (int value = 0; value < 8; value++) {
            TraceExplorer x = with(0, READ, 0);
            due("initial", x.initial(0, value), 0);
            for (int k = 0; k < 8; k++) {
                due("step", x.step(0, STORE + 2, k), 2);
                due(value + " stored plus " + k, x.nextResult(-1), 64 * value + (value + k) % 8);
                due(value + " stored plus " + k + ", peak", x.peak(2), (value + k) % 8);
                due("drop", x.drop(0), 1);
            }
        }
        TraceExplorer read = with(0, READ, 0, 0, STORE + 1, 1, 0, READ + 1, 0);
        due("initial", read.initial(0, 7), 0);
        due("read of 7 plus 1", read.endings(0), 1);
    }

    private static void addWrapsAround() {
        for (int value = 0; value < 8; value++) {
            TraceExplorer x = new TraceExplorer();
            due("initial", x.initial(1, value), 0);
            for (int k = 0; k < 8; k++) {
                due("step", x.step(1, ADD + 1, k), 1);
                due(k + " added to " + value, x.nextResult(-1), 8 * ((value + k) % 8));
                due("drop", x.drop(1), 0);
            }
        }
        due("7 nine times", Due.full(ADD + 2, 7).nextResult(-1), 63 % 8);
        due("the peak is under 8", with(0, WRITE, 6, 0, ADD, 7).peak(0), 6);
    }

    private static void locksAreApart() {
        due("lock 2", new TraceExplorer().step(0, LOCK + 2, 0), -2);
        due("unlock 2", new TraceExplorer().step(0, UNLOCK + 2, 0), -2);
        due("one thread takes both", with(0, LOCK, 0, 0, LOCK + 1, 0).stuckKinds(), 0);
        due("two threads take one each", with(0, LOCK, 0, 1, LOCK + 1, 0).stuckKinds(), 0);
        due("giving back 1 leaves 0", with(0, LOCK, 0, 0, UNLOCK + 1, 0, 0, LOCK, 0).stuckKinds(), 1);
        due("giving back 0 leaves 1", with(0, LOCK + 1, 0, 0, UNLOCK, 0, 0, LOCK + 1, 0).stuckKinds(), 1);
    }

    private static void aHeldLockIsNotTaken() {
        for (int lock = 0; lock < 2; lock++) {
            due("held by the thread itself", with(1, LOCK + lock, 0, 1, LOCK + lock, 0).shortestStuck(), 1);
            due("held by another", with(0, LOCK + lock, 0, 2, LOCK + lock, 0).results(), 0);
            due("held by thread 0", with(0, LOCK + lock, 0, 1, LOCK + lock, 0, 2, LOCK + lock, 0).runs(), 3);
            due("given back",
                    with(0, LOCK + lock, 0, 0, UNLOCK + lock, 0, 0, LOCK + lock, 0).stuckKinds(), 0);
            due("waited for", with(0, LOCK + lock, 0, 0, ADD, 1, 0, UNLOCK + lock, 0,
                    1, LOCK + lock, 0, 1, ADD, 1, 1, UNLOCK + lock, 0).runs(), 2);
        }
    }

    private static void unlockOfALockNotHeld() {
        due("held by nobody", with(0, UNLOCK, 0, 0, LOCK, 0, 0, UNLOCK, 0).stuckKinds(), 0);
        due("given back twice", with(0, LOCK, 0, 0, UNLOCK, 0, 0, UNLOCK, 0).stuckKinds(), 0);
        TraceExplorer other = with(0, LOCK, 0, 1, UNLOCK, 0, 1, UNLOCK, 0, 1, LOCK, 0);
        due("held by another: no complete run", other.results(), 0);
        due("held by another: it can be done all the same", other.shortestStuck(), 3);
        TraceExplorer twice = with(0, LOCK + 1, 0, 0, UNLOCK + 1, 0, 0, UNLOCK + 1, 0, 1, LOCK + 1, 0, 2, LOCK + 1, 0);
        due("the second one frees nothing of others", twice.results(), 0);
        TraceExplorer alone = Due.full(UNLOCK, 0);
        due("only unlocks: all runs", alone.runs(), 1680);
        due("only unlocks: one result", alone.kindsOf(0), 1680);
        due("accumulators stay", alone.endings(1), 1);
    }

    private static void runsBeginWithInitialValues() {
        TraceExplorer x = with(0, ADD, 1, 1, ADD, 1, 2, READ, 0);
        due("0 at first", x.endings(2), 1 + 2 + 4);
        due("one result", x.results(), 1);
        due("initial", x.initial(0, 7), 0);
        due("7, then 0 and 1", x.endings(2), 128 + 1 + 2);
        due("still one result", x.results(), 1);
        due("which is 7 + 2", x.nextResult(-1), 64);
    }

    private static void runsBeginWithEmptyAccumulators() {
        TraceExplorer x = with(0, STORE + 1, 0, 0, READ, 0, 1, WRITE, 3, 2, WRITE, 5);
        due("no value of an earlier run is stored", x.peak(1), 0);
        TraceExplorer own = with(0, READ, 0, 1, STORE + 1, 4);
        due("initial", own.initial(0, 7), 0);
        due("no value of another thread is stored", own.nextResult(-1), 64 * 7 + 8 * 4);
    }

    private static void runsBeginWithFreeLocks() {
        TraceExplorer x = with(0, LOCK, 0, 1, LOCK + 1, 0, 2, READ, 0);
        due("no lock of an earlier run is held", x.runs(), 6);
        due("nor one is waited for", x.stuckKinds(), 0);
        due("each lock can be the first step", with(2, LOCK, 0).results() + with(2, LOCK + 1, 0).results(), 2);
    }

    private static void aRunGoesOnWhileItCan() {
        due("one thread", with(1, READ, 0, 1, READ, 0, 1, READ, 0).runs(), 1);
        TraceExplorer x = with(0, LOCK, 0, 0, LOCK, 0, 1, ADD, 1, 2, ADD + 1, 1);
        due("one thread waits, the others go on", x.shortestStuck(), 3);
        due("in any order", x.runs(), 6);
        TraceExplorer freed = with(0, LOCK, 0, 0, UNLOCK, 0, 1, LOCK, 0, 1, UNLOCK, 0);
        due("who waits goes on later", freed.stuckKinds(), 0);
        due("one after the other", freed.runs(), 2);
    }

    private static void oneStepMissingIsStuck() {
        TraceExplorer x = with(0, READ, 0, 0, READ, 0, 0, LOCK, 0, 1, READ, 0, 1, READ, 0, 1, READ, 0,
                2, READ, 0, 2, READ, 0, 2, LOCK, 0);
        due("one of nine steps is missing", x.shortestStuck(), 8);
        due("so no run is complete", x.results(), 0);
        due("drop", x.drop(2), 2);
        due("a lock that is held at the end misses no step", x.stuckKinds(), 0);
        due("all are complete", x.kindsOf(0), 1);
        due("threads without steps miss none", with(1, READ, 0).results(), 1);
    }

    private static void leastAndGreatestResult() {
        TraceExplorer x = new TraceExplorer();
        due("all 0", x.nextResult(-1), 0);
        due("initial", x.initial(0, 7), 0);
        due("v0", x.nextResult(-1), 448);
        due("initial", x.initial(1, 7), 0);
        due("v0 and v1", x.nextResult(-1), 504);
        due("initial", x.initial(2, 7), 0);
        due("all 7", x.nextResult(-1), 511);
        due("initial", x.initial(0, 0), 7);
        due("v1 and v2", x.nextResult(-1), 63);
        due("initial", x.initial(1, 0), 7);
        due("v2", x.nextResult(-1), 7);
    }

    private static void twoReadsAreNotTied() {
        due("two reads", with(0, READ, 0, 1, READ, 0).kinds(), 1);
        int[] changing = {WRITE, STORE, ADD};
        for (int what : changing) {
            due("a read and " + what, with(0, READ, 0, 1, what, 0).kinds(), 2);
            due(what + " and a read", with(0, what, 0, 1, READ, 0).kinds(), 2);
            due(what + " twice", with(0, what, 0, 1, what, 0).kinds(), 2);
            due(what + " of two variables", with(0, what, 0, 1, what + 1, 0).kinds(), 1);
        }
        due("lock 0 is not variable 0", with(0, UNLOCK, 0, 1, WRITE, 0).kinds(), 1);
    }

    private static void otherStepsAreAnotherKind() {
        due("one step each", with(0, LOCK, 0, 1, LOCK, 0).kinds(), 2);
        due("one step each of three", with(0, LOCK + 1, 0, 1, LOCK + 1, 0, 2, LOCK + 1, 0).stuckKinds(), 3);
        TraceExplorer x = with(0, LOCK, 0, 0, READ, 0, 1, LOCK, 0, 1, READ, 0, 2, READ, 0);
        due("two of one thread or of the other", x.kinds(), 2);
        due("each in three orders", x.runs(), 6);
    }

    private static void questionsChangeNothing() {
        askedOrNot(Due.mixed(), Due.mixed());
        askedOrNot(Due.sums(), Due.sums());
        askedOrNot(Due.full(ADD, 1), Due.full(ADD, 1));
        askedOrNot(Due.alwaysStuck(), Due.alwaysStuck());
        askedOrNot(new TraceExplorer(), new TraceExplorer());
    }

    /** The changes after the questions are there to show what a question might have left behind. */
    private static void askedOrNot(TraceExplorer asked, TraceExplorer notAsked) {
        long once = Due.answers(asked);
        due("asked again", Due.answers(asked), once);
        due("initial after questions", asked.initial(1, 2), notAsked.initial(1, 2));
        due("step after questions", asked.step(2, WRITE, 5), notAsked.step(2, WRITE, 5));
        due("drop after questions", asked.drop(0), notAsked.drop(0));
        due("asked before and not asked before", Due.answers(asked), Due.answers(notAsked));
    }

    private static void refusedStepChangesNothing() {
        long due = Due.answers(Due.mixed());
        int[][] calls = {
            {-1, WRITE, 1, -1}, {3, WRITE, 1, -1}, {LEAST, WRITE, 1, -1}, {GREATEST, WRITE, 1, -1},
            {2, 3, 1, -2}, {2, LOCK + 2, 0, -2}, {2, 48, 1, -2}, {2, -8, 1, -2}, {2, LEAST, 1, -2}, {2, GREATEST, 1, -2},
            {2, WRITE, 8, -3}, {2, WRITE, -1, -3}, {2, WRITE, LEAST, -3}, {2, WRITE, GREATEST, -3},
            {0, WRITE, 6, -4}, {1, WRITE, 6, -4},
        };
        for (int[] call : calls) {
            TraceExplorer x = Due.mixed();
            String name = "step(" + call[0] + ", " + call[1] + ", " + call[2] + ")";
            due(name, x.step(call[0], call[1], call[2]), call[3]);
            due("all questions after " + name, Due.answers(x), due);
            due("the next step after " + name, x.step(2, READ, 0), 3);
        }
    }

    private static void refusedDropChangesNothing() {
        long due = Due.answers(Due.mixed());
        for (int thread : NOT_GOOD) {
            TraceExplorer x = Due.mixed();
            due("drop(" + thread + ")", x.drop(thread), -1);
            due("all questions after drop(" + thread + ")", Due.answers(x), due);
        }
        for (int thread = 0; thread < 3; thread++) {
            TraceExplorer empty = new TraceExplorer();
            due("drop(" + thread + ")", empty.drop(thread), -2);
            due("all questions after drop(" + thread + ")", Due.answers(empty), Due.answers(new TraceExplorer()));
            due("a step after it", empty.step(thread, WRITE, 1), 1);
        }
    }

    private static void refusedInitialChangesNothing() {
        long due = Due.answers(Due.mixed());
        for (int variable : NOT_GOOD) {
            TraceExplorer x = Due.mixed();
            due("initial(" + variable + ", 1)", x.initial(variable, 1), -1);
            due("all questions after it", Due.answers(x), due);
        }
        for (int value : NOT_A_VALUE) {
            TraceExplorer x = Due.mixed();
            due("initial(0, " + value + ")", x.initial(0, value), -2);
            due("all questions after it", Due.answers(x), due);
            due("the one before", x.initial(0, 1), 0);
        }
    }

    private static void refusedQuestionsChangeNothing() {
        TraceExplorer x = Due.mixed();
        for (int number : NOT_GOOD) {
            due("steps(" + number + ")", x.steps(number), -1);
            due("peak(" + number + ")", x.peak(number), -1);
            due("endings(" + number + ")", x.endings(number), -1);
        }
        due("kindsOf", x.kindsOf(-1), -1);
        due("kindsOf", x.kindsOf(512), -1);
        int[][] pairs = {{-1, 0, -1}, {0, 12, -1}, {3, 0, -2}, {0, 10, -2}, {4, 4, -3}};
        for (int[] pair : pairs) {
            due("before(" + pair[0] + ", " + pair[1] + ")", x.before(pair[0], pair[1]), pair[2]);
            due("tied(" + pair[0] + ", " + pair[1] + ")", x.tied(pair[0], pair[1]), pair[2]);
        }
        due("all questions after them", Due.answers(x), Due.answers(Due.mixed()));
    }

    /** Thread 0 is full, thread 2 is not. */
    private static void orderOfTestsInStep() {
        int[] threads = {-1, 0, 2, 3};
        int[] whats = {-1, READ, 3, UNLOCK + 1, UNLOCK + 2, 48};
        int[] numbers = {-1, 0, 7, 8};
        TraceExplorer x = with(0, READ, 0, 0, READ, 0, 0, READ, 0);
        for (int thread : threads) {
            for (int what : whats) {
                for (int k : numbers) {
                    boolean badThread = thread != 0 && thread != 2;
                    boolean badWhat = what != READ && what != UNLOCK + 1;
                    boolean badNumber = k != 0 && k != 7;
                    int want = badThread ? -1 : badWhat ? -2 : badNumber ? -3 : thread == 0 ? -4 : 1;
                    due("step(" + thread + ", " + what + ", " + k + ")", x.step(thread, what, k), want);
                    if (want == 1) {
                        due("drop", x.drop(thread), 0);
                    }
                }
            }
        }
    }

    private static void orderOfTestsInDrop() {
        TraceExplorer empty = new TraceExplorer();
        due("no thread, and none has steps", empty.drop(3), -1);
        due("no thread, and none has steps", empty.drop(-1), -1);
        due("a thread without steps", empty.drop(2), -2);
    }

    private static void orderOfTestsInInitial() {
        TraceExplorer x = new TraceExplorer();
        for (int variable : NOT_GOOD) {
            for (int value : NOT_A_VALUE) {
                due("initial(" + variable + ", " + value + ")", x.initial(variable, value), -1);
            }
        }
        due("a good variable and a bad value", x.initial(0, 8), -2);
        due("a good variable and a bad value", x.initial(2, -1), -2);
    }

    /** Each row has two or three faults at once; thread 0 has 3 steps, thread 1 none, thread 2 one. */
    private static final int[][] SEVERAL_FAULTS = {
        {3, -1, -1}, {-1, 3, -1}, {12, 3, -1}, {3, 12, -1}, {4, 12, -1}, {12, 4, -1}, {9, LEAST, -1}, {GREATEST, 11, -1},
        {-1, -1, -1}, {12, 12, -1}, {13, 13, -1}, {LEAST, LEAST, -1}, {GREATEST, GREATEST, -1},
        {3, 3, -2}, {4, 4, -2}, {7, 7, -2}, {9, 9, -2}, {11, 11, -2},
        {0, 0, -3}, {2, 2, -3}, {8, 8, -3},
    };

    private static TraceExplorer threeNoneOne() {
        return with(0, READ, 0, 0, READ, 0, 0, READ, 0, 2, WRITE, 0);
    }

    private static void orderOfTestsInBefore() {
        TraceExplorer x = threeNoneOne();
        for (int[] row : SEVERAL_FAULTS) {
            due("before(" + row[0] + ", " + row[1] + ")", x.before(row[0], row[1]), row[2]);
        }
    }

    private static void orderOfTestsInTied() {
        TraceExplorer x = threeNoneOne();
        for (int[] row : SEVERAL_FAULTS) {
            due("tied(" + row[0] + ", " + row[1] + ")", x.tied(row[0], row[1]), row[2]);
        }
    }

    private static void goodOnes() {
        TraceExplorer x = new TraceExplorer();
        for (int good = 0; good < 3; good++) {
            due("steps(" + good + ")", x.steps(good), 0);
            due("drop(" + good + ")", x.drop(good), -2);
            due("step(" + good + ", 0, 0)", x.step(good, READ, 0), 1);
            due("initial(" + good + ", 1)", x.initial(good, 1), 0);
            due("peak(" + good + ")", x.peak(good), 1);
        }
        for (int good = 0; good < 3; good++) {
            due("endings(" + good + ")", x.endings(good), 2);
            due("before, " + good, x.before(4 * good, 4 * ((good + 1) % 3)), 1);
            due("tied, " + good, x.tied(4 * good, 4 * ((good + 1) % 3)), 0);
        }
    }

    // Promises 1 to 5.

    private static void newObjectHasNoSteps() {
        TraceExplorer x = new TraceExplorer();
        for (int thread = 0; thread < 3; thread++) {
            due("steps", x.steps(thread), 0);
            due("endings", x.endings(thread), 1);
            due("before", x.before(4 * thread, 4 * thread), -2);
            due("drop", x.drop(thread), -2);
        }
        due("runs: the empty one", x.runs(), 1);
        due("kinds", x.kinds(), 1);
        due("stuckKinds", x.stuckKinds(), 0);
    }

    private static void newObjectHasZeros() {
        TraceExplorer x = new TraceExplorer();
        due("nextResult", x.nextResult(LEAST), 0);
        due("results", x.results(), 1);
        due("kindsOf", x.kindsOf(0), 1);
        for (int variable = 0; variable < 3; variable++) {
            due("peak", x.peak(variable), 0);
            due("initial", x.initial(variable, 0), 0);
        }
    }

    private static void stepGoesToTheEnd() {
        for (int thread = 0; thread < 3; thread++) {
            TraceExplorer x = new TraceExplorer();
            for (int i = 1; i <= 3; i++) {
                due("step", x.step(thread, WRITE + 1, i), i);
                due("the last write stays", x.nextResult(-1), 8 * i);
            }
            due("the first came first", x.before(4 * thread, 4 * thread + 2), 1);
        }
    }

    private static void everyGoodWhat() {
        TraceExplorer x = new TraceExplorer();
        for (int operation = 0; operation < 6; operation++) {
            for (int place = 0; place < (operation < 4 ? 3 : 2); place++) {
                due("step(1, " + (8 * operation + place) + ", 0)", x.step(1, 8 * operation + place, 0), 1);
                due("drop", x.drop(1), 0);
            }
        }
    }

    private static void stepOfNoThread() {
        TraceExplorer x = new TraceExplorer();
        for (int thread : NOT_GOOD) {
            due("step(" + thread + ", 0, 0)", x.step(thread, 0, 0), -1);
        }
    }

    private static void stepOfNoWhat() {
        TraceExplorer x = new TraceExplorer();
        for (int what = -70; what < 130; what++) {
            boolean good = what >= 0 && what < 48 && what % 8 < (what < 32 ? 3 : 2);
            if (!good) {
                due("step(0, " + what + ", 0)", x.step(0, what, 0), -2);
            }
        }
        int[] far = {256, 65536, 1 << 30, LEAST, LEAST + 8, GREATEST, GREATEST - 7};
        for (int what : far) {
            due("step(0, " + what + ", 0)", x.step(0, what, 0), -2);
        }
    }

    private static void stepOfNoValue() {
        TraceExplorer x = new TraceExplorer();
        for (int what = 0; what < 48; what += 8) {
            for (int k : NOT_A_VALUE) {
                due("step(0, " + what + ", " + k + ")", x.step(0, what, k), -3);
            }
            for (int k = 0; k < 8; k++) {
                due("step(0, " + what + ", " + k + ")", x.step(0, what, k), 1);
                due("drop", x.drop(0), 0);
            }
        }
    }

    private static void stepOfAFullThread() {
        for (int thread = 0; thread < 3; thread++) {
            TraceExplorer x = with(thread, READ, 0, thread, READ, 0, thread, READ, 0);
            due("a fourth step", x.step(thread, READ, 0), -4);
            due("a step of another thread", x.step((thread + 1) % 3, READ, 0), 1);
            due("drop", x.drop(thread), 2);
            due("there is room again", x.step(thread, READ, 0), 3);
            due("a fourth step", x.step(thread, READ, 0), -4);
        }
    }

    private static void stepAnswersHowMany() {
        TraceExplorer x = new TraceExplorer();
        for (int count = 1; count <= 3; count++) {
            for (int thread = 2; thread >= 0; thread--) {
                due("step", x.step(thread, ADD, 1), count);
            }
        }
    }

    private static void dropTakesTheLast() {
        TraceExplorer x = with(0, WRITE, 1, 0, WRITE, 2, 0, WRITE, 3, 1, WRITE + 1, 5);
        for (int left = 2; left >= 0; left--) {
            due("drop", x.drop(0), left);
            due("the last write left", x.nextResult(-1), 64 * left + 40);
        }
        due("the other thread keeps its own", x.steps(1), 1);
        due("put again", x.step(0, ADD, 7), 1);
        due("nothing of the old ones", x.nextResult(-1), 64 * 7 + 40);
    }

    private static void dropOfNoThread() {
        TraceExplorer x = Due.full(READ, 0);
        for (int thread : NOT_GOOD) {
            due("drop(" + thread + ")", x.drop(thread), -1);
        }
    }

    private static void dropOfAnEmptyThread() {
        for (int thread = 0; thread < 3; thread++) {
            TraceExplorer x = with((thread + 1) % 3, READ, 0, (thread + 2) % 3, READ, 0);
            due("at first", x.drop(thread), -2);
            due("step", x.step(thread, READ, 0), 1);
            due("drop", x.drop(thread), 0);
            due("after the last", x.drop(thread), -2);
        }
    }

    private static void dropAnswersHowMany() {
        TraceExplorer x = Due.full(ADD, 1);
        for (int left = 2; left >= 0; left--) {
            for (int thread = 0; thread < 3; thread++) {
                due("drop", x.drop(thread), left);
            }
        }
    }

    private static void initialOfNoVariable() {
        TraceExplorer x = new TraceExplorer();
        for (int variable : NOT_GOOD) {
            due("initial(" + variable + ", 0)", x.initial(variable, 0), -1);
        }
    }

    private static void initialOfNoValue() {
        TraceExplorer x = new TraceExplorer();
        for (int variable = 0; variable < 3; variable++) {
            for (int value : NOT_A_VALUE) {
                due("initial(" + variable + ", " + value + ")", x.initial(variable, value), -2);
            }
        }
    }

    private static void initialAnswersTheOneBefore() {
        TraceExplorer x = new TraceExplorer();
        for (int variable = 0; variable < 3; variable++) {
            due("the first one", x.initial(variable, 7), 0);
            due("the same again", x.initial(variable, 7), 7);
            for (int value = 6; value >= 0; value--) {
                due("the one before " + value, x.initial(variable, value), value + 1);
            }
        }
        due("what a run writes is no initial value", x.step(0, WRITE, 5), 1);
        due("so it is 0 still", x.initial(0, 0), 0);
    }

    private static void stepsFromNoneToThree() {
        TraceExplorer x = with(1, READ, 0, 1, READ, 0, 1, READ, 0, 2, READ, 0);
        due("none", x.steps(0), 0);
        due("three", x.steps(1), 3);
        due("one", x.steps(2), 1);
    }

    private static void stepsOfNoThread() {
        TraceExplorer x = Due.full(READ, 0);
        for (int thread : NOT_GOOD) {
            due("steps(" + thread + ")", x.steps(thread), -1);
        }
    }

    // Promises 6 to 11.

    private static void fewestAndMostRuns() {
        due("the empty run", new TraceExplorer().runs(), 1);
        due("of nine steps", Due.full(READ, 0).runs(), 1680);
        due("of nine steps on one variable", Due.full(STORE, 1).runs(), 1680);
        due("a stuck run is a run", Due.alwaysStuck().runs(), 1);
        due("of nine locks", Due.full(LOCK, 0).runs(), 3);
    }

    private static void fewestAndMostKinds() {
        due("of the empty run", new TraceExplorer().kinds(), 1);
        due("nothing tied", Due.full(READ, 0).kinds(), 1);
        due("all tied", Due.full(WRITE, 0).kinds(), 1680);
        due("all tied by a lock", Due.full(UNLOCK + 1, 0).kinds(), 1680);
        due("a stuck run is of a kind", Due.alwaysStuck().kinds(), 1);
    }

    private static void fewestAndMostStuckKinds() {
        due("of the empty run", new TraceExplorer().stuckKinds(), 0);
        due("none of 1680", Due.full(WRITE, 0).stuckKinds(), 0);
        due("the only one", Due.alwaysStuck().stuckKinds(), 1);
        due("of nine locks", Due.full(LOCK + 1, 0).stuckKinds(), 3);
        TraceExplorer x = with(0, WRITE, 1, 0, LOCK, 0, 0, LOCK, 0, 1, WRITE, 1, 1, WRITE, 1, 1, WRITE, 1,
                2, WRITE, 1, 2, WRITE, 1, 2, WRITE, 1);
        due("many, all stuck", x.stuckKinds(), x.kinds());
        due("the write is before, between or after six in 20 orders", x.kinds(), 7 * 20);
    }

    private static void resultsOfCompleteRunsAlone() {
        due("of the empty run", new TraceExplorer().results(), 1);
        due("no complete run", Due.alwaysStuck().results(), 0);
        due("equal ones count once", Due.full(ADD, 3).results(), 1);
        due("the result of stuck runs does not count", writesUnlessStuck(5).results(), 1);
    }

    private static void nextResultIsGreater() {
        TraceExplorer x = with(0, WRITE, 0, 1, WRITE, 1, 2, WRITE, 7);
        due("0 is greater than -1", x.nextResult(-1), 0);
        due("0 is not greater than 0", x.nextResult(0), 64);
        due("just below", x.nextResult(63), 64);
        due("equal", x.nextResult(64), 448);
        due("just below the last", x.nextResult(447), 448);
        due("equal to the last", x.nextResult(448), -1);
    }

    private static void nextResultOfAnyInt() {
        TraceExplorer x = new TraceExplorer();
        for (int variable = 0; variable < 3; variable++) {
            due("initial", x.initial(variable, 7), 0);
        }
        int[] less = {LEAST, LEAST + 1, -65536, -513, -512, -1, 0, 509, 510};
        for (int after : less) {
            due("nextResult(" + after + ")", x.nextResult(after), 511);
        }
        int[] notLess = {511, 512, 513, 1023, 65536, GREATEST - 1, GREATEST};
        for (int after : notLess) {
            due("nextResult(" + after + ")", x.nextResult(after), -1);
        }
    }

    private static void nextResultOfNone() {
        due("of the empty run, after 0", new TraceExplorer().nextResult(0), -1);
        due("no complete run", Due.alwaysStuck().nextResult(-1), -1);
        due("no complete run, any int", Due.alwaysStuck().nextResult(LEAST), -1);
    }

    private static void nextResultOfCompleteRunsAlone() {
        TraceExplorer x = writesUnlessStuck(5);
        due("a stuck run ends with 0", x.nextResult(-1), 320);
        due("initial", x.initial(0, 7), 0);
        due("a stuck run ends with 448", x.nextResult(320), -1);
    }

    /** Thread 0 writes k in variable 0 at the end, unless thread 1 takes the lock first and keeps it. */
    private static TraceExplorer writesUnlessStuck(int k) {
        return with(0, LOCK, 0, 0, UNLOCK, 0, 0, WRITE, k, 1, LOCK, 0);
    }

    private static void kindsOfEveryResult() {
        for (int half = 0; half < 512; half += 256) {
            TraceExplorer x = with(0, WRITE, 0, 1, WRITE, 3, 2, WRITE, 7);
            for (int result = half; result < half + 256; result++) {
                boolean has = result == 0 || result == 192 || result == 448;
                due("kindsOf(" + result + ")", x.kindsOf(result), has ? 2 : 0);
            }
        }
        due("the most of one result", Due.full(ADD, 0).kindsOf(0), 1680);
        due("kinds, not runs", Due.full(READ, 0).kindsOf(0), 1);
        due("stuck ones do not count", writesUnlessStuck(5).kindsOf(0), 0);
        TraceExplorer top = with(0, WRITE, 7, 1, WRITE + 1, 7, 2, WRITE + 2, 7);
        due("of 511", top.kindsOf(511), 1);
        due("of 510", top.kindsOf(510), 0);
    }

    private static void kindsOfNoResult() {
        TraceExplorer x = new TraceExplorer();
        int[] bad = {-1, 512, -2, -512, 513, 1024, 65536, 1 << 30, LEAST, GREATEST};
        for (int result : bad) {
            due("kindsOf(" + result + ")", x.kindsOf(result), -1);
        }
        due("0 is one", x.kindsOf(0), 1);
        due("511 is one", x.kindsOf(511), 0);
    }

    // Promises 12 to 16.

    private static void peakAtAnyTime() {
        TraceExplorer x = with(0, WRITE, 5, 0, WRITE, 1);
        due("in the middle", x.peak(0), 5);
        due("initial", x.initial(0, 7), 0);
        due("at the beginning", x.peak(0), 7);
        due("initial", x.initial(0, 2), 7);
        due("not any more", x.peak(0), 5);
        due("at the end", with(0, WRITE, 1, 0, WRITE, 6).peak(0), 6);
        TraceExplorer empty = new TraceExplorer();
        due("initial", empty.initial(2, 4), 0);
        due("in the empty run", empty.peak(2), 4);
        due("not touched", empty.peak(1), 0);
    }

    private static void peakInAnyRun() {
        due("in one order alone", with(0, WRITE, 3, 1, ADD, 4).peak(0), 7);
        due("in a stuck run alone", with(0, LOCK + 1, 0, 0, WRITE + 2, 6, 0, LOCK + 1, 0).peak(2), 6);
        TraceExplorer never = with(0, LOCK, 0, 0, LOCK, 0, 0, WRITE + 2, 6);
        due("a step that no run takes", never.peak(2), 0);
        TraceExplorer dropped = with(1, WRITE + 1, 7);
        due("drop", dropped.drop(1), 0);
        due("a step that is dropped", dropped.peak(1), 0);
    }

    private static void peakOfNoVariable() {
        TraceExplorer x = new TraceExplorer();
        for (int variable : NOT_GOOD) {
            due("peak(" + variable + ")", x.peak(variable), -1);
        }
    }

    private static void endingsFromFirstToLastValue() {
        TraceExplorer x = with(1, READ + 2, 0);
        for (int value = 0; value < 8; value++) {
            due("initial", x.initial(2, value), value == 0 ? 0 : value - 1);
            due("only " + value, x.endings(1), 1 << value);
            due("a thread that reads nothing", x.endings(0), 1);
        }
        TraceExplorer all = with(0, ADD, 1, 0, ADD, 1, 0, ADD, 1, 1, ADD, 4, 2, READ, 0);
        due("all eight", all.endings(2), 255);
    }

    private static void endingsOfCompleteRunsAlone() {
        for (int thread = 0; thread < 3; thread++) {
            due("no complete run", Due.alwaysStuck().endings(thread), 0);
        }
        due("of the empty run", new TraceExplorer().endings(2), 1);
        TraceExplorer x = with(0, LOCK, 0, 0, WRITE, 1, 0, UNLOCK, 0, 1, LOCK, 0, 1, READ, 0);
        due("a stuck run ends with 0", x.endings(1), 2);
        due("the last read counts", with(0, READ, 0, 0, WRITE, 4, 0, READ, 0).endings(0), 16);
    }

    private static void endingsOfNoThread() {
        TraceExplorer x = new TraceExplorer();
        for (int thread : NOT_GOOD) {
            due("endings(" + thread + ")", x.endings(thread), -1);
        }
    }

    private static void beforeInCompleteRunsAlone() {
        due("no complete run", Due.alwaysStuck().before(0, 1), 0);
        TraceExplorer x = with(0, LOCK, 0, 0, WRITE, 1, 0, UNLOCK, 0, 1, LOCK, 0, 1, READ, 0);
        due("in the complete run", x.before(0, 4), 1);
        due("in no complete run", x.before(4, 0), 0);
        TraceExplorer late = with(0, ADD, 1, 0, LOCK, 0, 0, UNLOCK, 0, 1, LOCK, 0);
        due("in complete runs", late.before(0, 4), 1);
        due("in stuck runs alone", late.before(4, 0), 0);
        TraceExplorer rare = with(0, READ, 0, 0, READ, 0, 0, READ, 0, 2, READ, 0, 2, READ, 0, 2, READ, 0);
        due("last before first", rare.before(2, 8), 1);
        due("last before first", rare.before(10, 0), 1);
        due("against the thread's order", rare.before(10, 8), 0);
        TraceExplorer gone = with(0, READ, 0, 1, READ, 0, 2, LOCK, 0);
        due("while there are complete runs", gone.before(0, 4), 1);
        due("step", gone.step(2, LOCK, 0), 2);
        due("when there are none any more", gone.before(0, 4), 0);
    }

    private static void beforeOfNoThread() {
        TraceExplorer x = Due.full(READ, 0);
        int[] bad = {12, 13, 15, 16, 256, 65536, 1 << 30, GREATEST};
        for (int number : bad) {
            due("before(" + number + ", 0)", x.before(number, 0), -1);
            due("before(0, " + number + ")", x.before(0, number), -1);
        }
        due("10 is of thread 2", x.before(10, 0), 1);
        due("11 is of thread 2", x.before(11, 0), -2);
    }

    private static void beforeOfNoStep() {
        TraceExplorer full = Due.full(READ, 0);
        for (int number = 3; number < 12; number += 4) {
            due("before(" + number + ", 1)", full.before(number, 1), -2);
            due("before(1, " + number + ")", full.before(1, number), -2);
        }
        TraceExplorer x = new TraceExplorer();
        for (int number = 0; number < 12; number++) {
            due("no steps, before(" + number + ", 0)", x.before(number, 0), -2);
        }
        for (int i = 0; i < 3; i++) {
            due("not yet", x.before(0, 4 + i), -2);
            due("step", x.step(1, READ, 0), i + 1);
        }
        due("step", x.step(0, READ, 0), 1);
        for (int i = 2; i >= 0; i--) {
            due("there", x.before(0, 4 + i), 1);
            due("drop", x.drop(1), i);
            due("not any more", x.before(0, 4 + i), -2);
        }
    }

    private static void beforeOfTheSameStep() {
        TraceExplorer x = Due.full(READ, 0);
        for (int number = 0; number < 11; number++) {
            if (number % 4 < 3) {
                due("before(" + number + ", " + number + ")", x.before(number, number), -3);
            }
        }
        due("equal steps of two threads are two", x.before(0, 4), 1);
        due("equal steps of one thread are two", x.before(0, 1), 1);
    }

    private static void beforeOfNegativeNumbers() {
        TraceExplorer x = Due.full(READ, 0);
        int[] bad = {-1, -2, -3, -4, -5, -8, -12, -16, LEAST, LEAST + 1};
        for (int number : bad) {
            due("before(" + number + ", 0)", x.before(number, 0), -1);
            due("before(0, " + number + ")", x.before(0, number), -1);
            due("before(" + number + ", 3)", x.before(number, 3), -1);
            due("before(3, " + number + ")", x.before(3, number), -1);
            due("before(" + number + ", " + number + ")", x.before(number, number), -1);
        }
    }

    private static void tiedOfEveryPairOfOperations() {
        for (int one = 0; one < 48; one++) {
            for (int other = 0; other < 48; other++) {
                boolean good = one % 8 < (one < 32 ? 3 : 2) && other % 8 < (other < 32 ? 3 : 2);
                if (!good) {
                    continue;
                }
                TraceExplorer x = with(0, one, 0, 2, other, 0, 0, other, 0);
                boolean bothRead = one < 8 && other < 8;
                boolean samePlace = one % 8 == other % 8 && one < 32 == other < 32;
                due(one + " and " + other, x.tied(0, 8), samePlace && !bothRead ? 1 : 0);
                due(one + " and " + other + " of one thread", x.tied(0, 1), 1);
            }
        }
    }

    private static void tiedRefusesAsBefore() {
        TraceExplorer x = threeNoneOne();
        int[] numbers = {LEAST, -4, -1, 0, 2, 3, 4, 8, 9, 11, 12, 13, GREATEST};
        for (int first : numbers) {
            for (int second : numbers) {
                boolean noThread = first < 0 || second < 0 || first > 11 || second > 11;
                boolean noStep = !isOfThreeNoneOne(first) || !isOfThreeNoneOne(second);
                if (noThread || noStep || first == second) {
                    int want = noThread ? -1 : noStep ? -2 : -3;
                    due("tied(" + first + ", " + second + ")", x.tied(first, second), want);
                    due("before(" + first + ", " + second + ")", x.before(first, second), want);
                }
            }
        }
    }

    private static boolean isOfThreeNoneOne(int number) {
        return number >= 0 && number < 3 || number == 8;
    }

    private static void shortestAndLongestStuck() {
        due("one step", Due.alwaysStuck().shortestStuck(), 1);
        due("the shortest is the last run",
                with(0, LOCK, 0, 0, ADD, 1, 0, ADD, 1, 1, LOCK, 0, 1, LOCK, 0).shortestStuck(), 1);
        due("the shortest is the first run",
                with(1, LOCK, 0, 1, ADD, 1, 1, ADD, 1, 0, LOCK, 0, 0, LOCK, 0).shortestStuck(), 1);
        due("all but one of nine steps", with(0, READ, 0, 0, LOCK, 0, 0, LOCK, 0, 1, ADD, 1, 1, ADD, 1, 1, ADD, 1,
                2, ADD, 1, 2, ADD, 1, 2, ADD, 1).shortestStuck(), 8);
    }

    private static void noStuckRun() {
        due("complete runs alone", Due.full(ADD, 1).shortestStuck(), 0);
        TraceExplorer x = Due.alwaysStuck();
        due("drop", x.drop(0), 1);
        due("none any more", x.shortestStuck(), 0);
    }

    private static void theEmptyRunIsComplete() {
        TraceExplorer x = new TraceExplorer();
        due("shortestStuck", x.shortestStuck(), 0);
        due("stuckKinds", x.stuckKinds(), 0);
        due("kindsOf(0)", x.kindsOf(0), 1);
        due("results", x.results(), 1);
        TraceExplorer emptied = Due.alwaysStuck();
        due("drop", emptied.drop(0), 1);
        due("drop", emptied.drop(0), 0);
        due("shortestStuck after drops", emptied.shortestStuck(), 0);
        due("all questions after drops", Due.answers(emptied), Due.answers(x));
    }
}
