/** What the tests share: the operations as parts of `what`, objects with steps, and the count of wrong answers. */
final class Due {
    static final int READ = 0;
    static final int WRITE = 8;
    static final int STORE = 16;
    static final int ADD = 24;
    static final int LOCK = 32;
    static final int UNLOCK = 40;

    /** After so many calls on one object its answers are free, and a test may not look at them. */
    static final int CALLS = 512;

    private static final int SHOWN = 40;

    private static int wrong = 0;

    private Due() {
    }

    static void due(String what, long got, long want) {
        if (got == want) {
            return;
        }
        wrong++;
        if (wrong <= SHOWN) {
            System.out.println(what + " answered " + got + ", due is " + want);
        }
    }

    static void end() {
        System.out.println(wrong == 0 ? "all answers are as due" : wrong + " answers are not as due");
        if (wrong != 0) {
            System.exit(1);
        }
    }

    /** A new object with the steps given as thread, what, k, thread, what, k, ... */
    static TraceExplorer with(int... steps) {
        TraceExplorer x = new TraceExplorer();
        for (int i = 0; i < steps.length; i += 3) {
            int answer = x.step(steps[i], steps[i + 1], steps[i + 2]);
            if (answer < 1) {
                due("step for a test", answer, 1);
            }
        }
        return x;
    }

    /** A new object with the same step nine times. */
    static TraceExplorer full(int what, int k) {
        return with(0, what, k, 0, what, k, 0, what, k, 1, what, k, 1, what, k, 1, what, k,
                2, what, k, 2, what, k, 2, what, k);
    }

    /** A thread that waits for itself: its only run is stuck after one step. */
    static TraceExplorer alwaysStuck() {
        return with(0, LOCK, 0, 0, LOCK, 0);
    }

    /** Every operation, with complete runs and stuck ones, kinds of several runs, and several results. */
    static TraceExplorer mixed() {
        return with(0, LOCK, 4, 0, READ, 5, 0, STORE, 1, 1, READ, 6, 1, LOCK, 7, 1, UNLOCK, 1,
                2, ADD, 2, 2, WRITE + 1, 3);
    }

    /** Steps whose numbers can all be seen in the results. */
    static TraceExplorer sums() {
        return with(0, ADD, 1, 0, STORE + 1, 2, 0, ADD + 2, 3, 1, ADD, 4, 1, ADD + 1, 5, 2, WRITE + 2, 6, 2, ADD, 7);
    }

    /** One number for the answers of all questions, in 127 calls. */
    static long answers(TraceExplorer x) {
        long sum = 17;
        sum = sum * 31 + x.runs();
        sum = sum * 31 + x.kinds();
        sum = sum * 31 + x.stuckKinds();
        sum = sum * 31 + x.results();
        sum = sum * 31 + x.shortestStuck();
        int result = x.nextResult(-1);
        for (int i = 0; i < 8; i++) {
            sum = sum * 31 + result;
            sum = sum * 31 + x.kindsOf(result);
            result = x.nextResult(result);
        }
        for (int i = 0; i < 3; i++) {
            sum = sum * 31 + x.steps(i);
            sum = sum * 31 + x.peak(i);
            sum = sum * 31 + x.endings(i);
        }
        for (int first = 0; first < 12; first += 3) {
            for (int second = 0; second < 12; second++) {
                sum = sum * 31 + x.before(first, second);
                sum = sum * 31 + x.tied(first, second);
            }
        }
        return sum;
    }
}
