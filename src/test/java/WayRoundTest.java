/**
 * Where a way comes round to its start again: 65534, 65535 and 65536 steps lie a step before
 * the start, on it, and a step behind it. What is due there follows from the single steps.
 */
public final class WayRoundTest {
    private static final int ROUND = 65535;
    private static final int[] STARTS = {1, 2, 256, 21845, 32768, 40000, 65534, 65535};

    public static void main(String[] args) {
        nextGoesRound();
        jumpGoesRound();
        peekGoesRound();
        distanceGoesRound();
        betweenGoesRound();
        mixedGoesRound();
        periodIsARound();
        beforeGoesRound();
        apartGoesRound();
        nextRoundGoesRound();
        Due.end();
    }

    private static JumpGenerator at(int state) {
        JumpGenerator g = new JumpGenerator();
        g.seed(state);
        return g;
    }

    /** What lies ROUND - 1, ROUND and ROUND + 1 steps from x, for offset -1, 0 and 1. */
    private static int beside(int x, int offset) {
        if (offset == 0) {
            return x;
        }
        return offset < 0 ? TableModel.PREVIOUS[x] : TableModel.NEXT[x];
    }

    private static void nextGoesRound() {
        Due.sentence("4 next: a whole round and a step more");
        JumpGenerator g = new JumpGenerator();
        int x = 1;
        for (int n = 1; n <= ROUND + 1; n++) {
            // An object is used for at most 512 calls.
            if (n % 500 == 0) {
                g = at(x);
            }
            x = g.next();
            if (n >= ROUND - 1) {
                Due.is("next(), the " + n + "th", x, beside(1, n - ROUND));
            } else {
                Due.is("next(), the " + n + "th, is the start", x == 1, false);
            }
        }
    }

    private static void jumpGoesRound() {
        Due.sentence("5 jump: 65534, 65535 and 65536 steps, forwards and backwards");
        for (int start : STARTS) {
            for (int offset = -1; offset <= 1; offset++) {
                int n = ROUND + offset;
                JumpGenerator forwards = at(start);
                Due.is("jump(" + n + ") at " + start, forwards.jump(n), beside(start, offset));
                Due.is("state() after it", forwards.state(), beside(start, offset));
                Due.is("jump(" + -n + ") after it", forwards.jump(-n), start);
                JumpGenerator backwards = at(start);
                Due.is("jump(" + -n + ") at " + start, backwards.jump(-n), beside(start, -offset));
                Due.is("state() after it", backwards.state(), beside(start, -offset));
                Due.is("jump(" + n + ") after it", backwards.jump(n), start);
            }
            JumpGenerator twice = at(start);
            twice.jump(100000);
            Due.is("jump(31070) after jump(100000)", twice.jump(2 * ROUND - 100000), start);
            twice.jump(-100000);
            Due.is("jump(-31070) after jump(-100000)", twice.jump(100000 - 2 * ROUND), start);
        }
    }

    private static void peekGoesRound() {
        Due.sentence("6 peek: 65534, 65535 and 65536 steps, forwards and backwards");
        for (int start : STARTS) {
            JumpGenerator g = at(start);
            for (int offset = -1; offset <= 1; offset++) {
                int n = ROUND + offset;
                Due.is("peek(" + n + ") at " + start, g.peek(n), beside(start, offset));
                Due.is("peek(" + -n + ") at " + start, g.peek(-n), beside(start, -offset));
                Due.is("state() after it", g.state(), start);
            }
        }
    }

    private static void distanceGoesRound() {
        Due.sentence("9 distance: a step before the start, on it, and a step behind it");
        for (int start : STARTS) {
            JumpGenerator g = at(start);
            Due.is("distance to 65534 steps on", g.distance(TableModel.PREVIOUS[start]), ROUND - 1);
            Due.is("distance to 65535 steps on", g.distance(start), 0);
            Due.is("distance to 65536 steps on", g.distance(TableModel.NEXT[start]), 1);
            g.jump(ROUND - 1);
            Due.is("distance from 65534 steps on", g.distance(start), 1);
            g.jump(1);
            Due.is("distance from 65535 steps on", g.distance(start), 0);
            g.jump(1);
            Due.is("distance from 65536 steps on", g.distance(start), ROUND - 1);
        }
    }

    private static void betweenGoesRound() {
        Due.sentence("10 between: a step before the start, on it, and a step behind it");
        for (int start : STARTS) {
            JumpGenerator g = at(start);
            g.mark(0);
            for (int m = 1; m <= 3; m++) {
                g.back(0);
                g.jump(ROUND - 2 + m);
                g.mark(m);
            }
            int[] fromStart = {0, ROUND - 1, 0, 1};
            int[] toStart = {0, 1, 0, ROUND - 1};
            for (int m = 0; m <= 3; m++) {
                Due.is("between(0, " + m + ") at " + start, g.between(0, m), fromStart[m]);
                Due.is("between(" + m + ", 0) at " + start, g.between(m, 0), toStart[m]);
            }
            Due.is("between(1, 3) at " + start, g.between(1, 3), 2);
            Due.is("between(3, 1) at " + start, g.between(3, 1), ROUND - 2);
        }
    }

    // A round meets each of 1 .. 65535 once, and the exclusive or of all these is 0.
    private static void mixedGoesRound() {
        Due.sentence("11 mixed: 65534, 65535, 65536 and 65537 states");
        for (int start : STARTS) {
            JumpGenerator g = at(start);
            int next = TableModel.NEXT[start];
            Due.is("mixed(65534) at " + start, g.mixed(ROUND - 1), TableModel.PREVIOUS[start]);
            Due.is("mixed(65535) at " + start, g.mixed(ROUND), 0);
            Due.is("mixed(65536) at " + start, g.mixed(ROUND + 1), start);
            Due.is("mixed(65537) at " + start, g.mixed(ROUND + 2), start ^ next);
        }
    }

    private static void periodIsARound() {
        Due.sentence("12 period: before, on and behind the start");
        for (int start : STARTS) {
            for (int n : new int[] {-ROUND - 1, -ROUND, -1, 0, 1, ROUND - 1, ROUND, ROUND + 1}) {
                JumpGenerator g = at(start);
                int reached = g.jump(n);
                Due.is("period() " + n + " steps from " + start, g.period(), ROUND);
                Due.is("state() after it", g.state(), reached);
            }
        }
    }

    private static void beforeGoesRound() {
        Due.sentence("13 before: 65534, 65535 and 65536 steps");
        JumpGenerator g = at(300);
        for (int s : STARTS) {
            for (int offset = -1; offset <= 1; offset++) {
                int n = ROUND + offset;
                Due.is("before(" + s + ", " + n + ")", g.before(s, n), beside(s, -offset));
            }
        }
        Due.is("state() after it", g.state(), 300);
    }

    private static void apartGoesRound() {
        Due.sentence("14 apart: 65534, 65535 and 65536 steps");
        for (int s : STARTS) {
            JumpGenerator g = at(300);
            for (int t : STARTS) {
                for (int offset = -1; offset <= 1; offset++) {
                    int n = ROUND + offset;
                    int due = beside(s, offset) ^ beside(t, offset);
                    Due.is("apart(" + s + ", " + t + ", " + n + ")", g.apart(s, t, n), due);
                }
            }
            Due.is("state() after it", g.state(), 300);
        }
    }

    private static void nextRoundGoesRound() {
        Due.sentence("15 nextRound: the same before a round and after it");
        for (int start : STARTS) {
            for (int k = 0; k <= 8; k++) {
                JumpGenerator g = at(start);
                int due = g.nextRound(k);
                Due.is("the lowest " + k + " bits there", g.peek(due) % (1 << k), 0);
                g.jump(ROUND);
                Due.is("nextRound(" + k + ") after a round", g.nextRound(k), due);
                g.jump(-ROUND + due);
                Due.is("nextRound(" + k + ") at its own end", g.nextRound(k), 0);
            }
        }
    }
}
