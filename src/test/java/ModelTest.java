/** Many runs of mixed calls, the same at every start, each answer compared with the model's. */
public final class ModelTest {
    private static final int RUNS = 20000;
    private static final int PROMISED_CALLS = 512;
    private static final int LOOKS = 181;
    private static final int[] ODD_NUMBERS = {-1, 16, 2, 4, 31, 64, Integer.MIN_VALUE, Integer.MAX_VALUE};

    private static long seed = 1;
    private static int fullAnswers = 0;
    private static int readOnlyAnswers = 0;

    public static void main(String[] args) {
        // One run that went wrong tells enough.
        for (int run = 0; run < RUNS && Check.allAsDue(); run++) {
            oneRun(run);
        }
        Check.due("whether the runs met FULL often", fullAnswers > RUNS, true);
        Check.due("whether the runs met READ_ONLY often", readOnlyAnswers > RUNS, true);
        Check.end();
    }

    private static void oneRun(int run) {
        SuperpageReserve x = new SuperpageReserve();
        Model model = new Model();
        // Some runs go on to the last call that is promised; the others leave room for a look at everything.
        boolean looks = run % 4 != 0;
        int calls = looks ? 1 + below(PROMISED_CALLS - LOOKS) : PROMISED_CALLS;
        // Runs differ in how many pages they use, so that some crowd few pages and some fill the memory.
        int pages = 1 + below(16);
        for (int call = 0; call < calls; call++) {
            oneCall("run " + run + ", call " + call + ": ", x, model, pages);
        }
        if (looks) {
            compareAll("run " + run + ", at its end: ", x, model);
        }
    }

    private static void oneCall(String where, SuperpageReserve x, Model model, int pages) {
        int kind = below(40);
        int p = mostly(below(2));
        int v = mostly(below(pages));
        int u = mostly(below(pages));
        int w = mostly(below(4));
        int n = below(3) == 0 ? (int) next() : below(10);
        int got;
        int want;
        String call;
        if (kind < 8) {
            call = "touch(" + p + ", " + v + ")";
            got = x.touch(p, v);
            want = model.touch(p, v);
        } else if (kind < 18) {
            call = "write(" + p + ", " + v + ", " + w + ", " + n + ")";
            got = x.write(p, v, w, n);
            want = model.write(p, v, w, n);
        } else if (kind < 20) {
            call = "read(" + p + ", " + v + ", " + w + ")";
            got = x.read(p, v, w);
            want = model.read(p, v, w);
        } else if (kind < 22) {
            call = "unmap(" + p + ", " + v + ")";
            got = x.unmap(p, v);
            want = model.unmap(p, v);
        } else if (kind < 25) {
            int on = below(2) * n;
            call = "protect(" + p + ", " + v + ", " + on + ")";
            got = x.protect(p, v, on);
            want = model.protect(p, v, on);
        } else if (kind < 27) {
            call = "state(" + p + ", " + v + ")";
            got = x.state(p, v);
            want = model.state(p, v);
        } else if (kind < 29) {
            call = "shared(" + v + ")";
            got = x.shared(v) ? 1 : 0;
            want = model.shared(v) ? 1 : 0;
        } else if (kind < 30) {
            call = "split(" + p + ")";
            got = x.split(p);
            want = model.split(p);
        } else if (kind < 35) {
            call = "copy(" + p + ", " + v + ", " + u + ")";
            got = x.copy(p, v, u);
            want = model.copy(p, v, u);
        } else if (kind < 36) {
            int to = below(2) == 0 ? u : v + below(3);
            call = "unmapRange(" + p + ", " + v + ", " + to + ")";
            got = x.unmapRange(p, v, to);
            want = model.unmapRange(p, v, to);
        } else if (kind < 37) {
            call = "present(" + p + ")";
            got = x.present(p);
            want = model.present(p);
        } else if (kind < 39) {
            call = "inUse()";
            got = x.inUse();
            want = model.inUse();
        } else {
            call = "digest(" + p + ")";
            got = x.digest(p);
            want = model.digest(p);
        }
        count(kind, want);
        Check.due(where + call, got, want);
    }

    /** Only touch, write and copy answer these codes; read and digest can answer any number. */
    private static void count(int kind, int want) {
        boolean changes = kind < 18 || kind >= 30 && kind < 35;
        fullAnswers += changes && want == SuperpageReserve.FULL ? 1 : 0;
        readOnlyAnswers += changes && want == SuperpageReserve.READ_ONLY ? 1 : 0;
    }

    private static void compareAll(String where, SuperpageReserve x, Model model) {
        for (int p = 0; p < 2; p++) {
            for (int v = 0; v < 16; v++) {
                Check.due(where + "state(" + p + ", " + v + ")", x.state(p, v), model.state(p, v));
                for (int w = 0; w < 4; w++) {
                    Check.due(where + "read(" + p + ", " + v + ", " + w + ")", x.read(p, v, w), model.read(p, v, w));
                }
            }
            Check.due(where + "present(" + p + ")", x.present(p), model.present(p));
            Check.due(where + "digest(" + p + ")", x.digest(p), model.digest(p));
        }
        for (int v = 0; v < 16; v++) {
            Check.due(where + "shared(" + v + ")", x.shared(v), model.shared(v));
        }
        Check.due(where + "inUse()", x.inUse(), model.inUse());
    }

    private static int mostly(int right) {
        return below(40) == 0 ? ODD_NUMBERS[below(ODD_NUMBERS.length)] : right;
    }

    private static int below(int bound) {
        return (int) Long.remainderUnsigned(next(), bound);
    }

    /** A fixed sequence in place of a random source, so that every run of the test is the same. */
    private static long next() {
        seed = seed * 6364136223846793005L + 1442695040888963407L;
        return seed >>> 32;
    }
}
