/** Long runs of mixed calls, each run on a new object, against the model. */
public final class ModelRunsTest {
    private static final int RUNS = 60;
    private static final int CALLS = 512;
    private static final int KINDS = 15;

    private static final int[] STATE_EDGES = {
        -1, 0, 1, 2, 32767, 32768, 65534, 65535, 65536, 65537, -65535, 131071,
        Integer.MIN_VALUE, Integer.MAX_VALUE};
    private static final int[] STEP_EDGES = {
        -100001, -100000, -99999, -65536, -65535, -65534, -1, 0, 1, 65534, 65535, 65536,
        99999, 100000, 100001, Integer.MIN_VALUE, Integer.MIN_VALUE + 1, Integer.MAX_VALUE};
    private static final int[] SMALL_EDGES = {
        -1, 0, 7, 8, 9, 16, -8, 32, 65536, Integer.MIN_VALUE, Integer.MAX_VALUE};

    // A sequence of its own, so that every run of the test makes the same calls.
    private long chance = 20261115L;
    private final TableModel model = new TableModel();
    private final JumpGenerator g = new JumpGenerator();

    private ModelRunsTest(int run) {
        chance += run;
    }

    public static void main(String[] args) {
        for (int run = 0; run < RUNS; run++) {
            ModelRunsTest test = new ModelRunsTest(run);
            for (int i = 0; i < CALLS; i++) {
                test.callOnce("run " + run + ", call " + i + ": ");
            }
        }
        Due.end();
    }

    private int below(int bound) {
        chance = chance * 6364136223846793005L + 1442695040888963407L;
        return (int) ((chance >>> 33) % bound);
    }

    private int anyState() {
        return below(5) == 0 ? STATE_EDGES[below(STATE_EDGES.length)] : 1 + below(65535);
    }

    private int anySteps() {
        int kind = below(8);
        if (kind < 2) {
            return STEP_EDGES[below(STEP_EDGES.length)];
        }
        int most = kind < 5 ? 40 : 100000;
        return below(2 * most + 1) - most;
    }

    private int anyCount() {
        int n = anySteps();
        return n < 0 && n >= -100000 && below(6) != 0 ? -n : n;
    }

    private int anySmall() {
        return below(8) == 0 ? SMALL_EDGES[below(SMALL_EDGES.length)] : below(9);
    }

    private void callOnce(String where) {
        int kind = below(KINDS);
        switch (kind) {
            case 0: case 1: case 2: case 3:
                callAboutStates(kind, where, anyState());
                break;
            case 4: case 5: case 6:
                callWithSteps(kind, where, anySteps());
                break;
            case 7: case 8: case 9: case 10:
                callWithSmall(kind, where, anySmall());
                break;
            default:
                callWithCount(kind, where, anyCount());
        }
    }

    private void callAboutStates(int kind, String where, int s) {
        if (kind == 0) {
            Due.is(where + "seed(" + s + ")", g.seed(s), model.seed(s));
        } else if (kind == 1) {
            Due.is(where + "distance(" + s + ")", g.distance(s), model.distance(s));
        } else if (kind == 2) {
            Due.is(where + "state()", g.state(), model.state);
        } else {
            Due.is(where + "next()", g.next(), model.next());
        }
    }

    private void callWithSteps(int kind, String where, int n) {
        if (kind == 4) {
            Due.is(where + "jump(" + n + ")", g.jump(n), model.jump(n));
        } else if (kind == 5) {
            Due.is(where + "peek(" + n + ")", g.peek(n), model.peek(n));
        } else {
            Due.is(where + "period()", g.period(), model.period());
        }
    }

    private void callWithSmall(int kind, String where, int m) {
        if (kind == 7) {
            Due.is(where + "mark(" + m + ")", g.mark(m), model.mark(m));
        } else if (kind == 8) {
            Due.is(where + "back(" + m + ")", g.back(m), model.back(m));
        } else if (kind == 9) {
            int n = anySmall();
            Due.is(where + "between(" + m + ", " + n + ")", g.between(m, n), model.between(m, n));
        } else {
            Due.is(where + "nextRound(" + m + ")", g.nextRound(m), model.nextRound(m));
        }
    }

    private void callWithCount(int kind, String where, int n) {
        int s = anyState();
        if (kind == 11 || kind == 12) {
            Due.is(where + "mixed(" + n + ")", g.mixed(n), model.mixed(n));
        } else if (kind == 13) {
            Due.is(where + "before(" + s + ", " + n + ")", g.before(s, n), model.before(s, n));
        } else {
            int t = below(8) == 0 ? s : anyState();
            Due.is(where + "apart(" + s + ", " + t + ", " + n + ")", g.apart(s, t, n), model.apart(s, t, n));
        }
    }
}
