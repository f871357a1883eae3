/** Ordinary arguments: a sweep over the whole range of each, against single steps of the model. */
public final class SweepTest {
    private static final int MOST = 100000;
    // No divisor of a round (65535 = 3 * 5 * 17 * 257) and no power of 2.
    private static final int STRIDE = 19;
    private static final int START = 21845;

    private static JumpGenerator fresh = at(START);
    private static int spent = 0;

    public static void main(String[] args) {
        stepsForwards();
        stepsBackwards();
        mixes();
        befores();
        aparts();
        distances();
        betweens();
        Due.end();
    }

    private static JumpGenerator at(int state) {
        JumpGenerator g = new JumpGenerator();
        g.seed(state);
        return g;
    }

    /** An object at START that has calls left: it is used for at most 512. */
    private static JumpGenerator usable() {
        spent++;
        if (spent % 500 == 0) {
            fresh = at(START);
        }
        return fresh;
    }

    // The small numbers all, the others with the stride.
    private static boolean isTaken(int n) {
        return n <= 300 || n % STRIDE == 0;
    }

    private static void stepsForwards() {
        Due.sentence("5 jump, 6 peek: \"n steps forwards (n above 0)\", 0 .. 100000");
        int x = START;
        for (int n = 0; n <= MOST; n++) {
            if (isTaken(n)) {
                Due.is("peek(" + n + ")", usable().peek(n), x);
                Due.is("jump(" + n + ")", at(START).jump(n), x);
            }
            x = TableModel.NEXT[x];
        }
    }

    private static void stepsBackwards() {
        Due.sentence("5 jump, 6 peek: \"or backwards (n below 0: ..)\", -100000 .. 0");
        int x = START;
        for (int n = 0; n <= MOST; n++) {
            if (isTaken(n)) {
                Due.is("peek(-" + n + ")", usable().peek(-n), x);
                Due.is("jump(-" + n + ")", at(START).jump(-n), x);
            }
            x = TableModel.PREVIOUS[x];
        }
    }

    private static void mixes() {
        Due.sentence("11 mixed: \"The exclusive or of the current state and the states after 1, 2, ..,"
                + " n - 1 steps\", 0 .. 100000");
        int x = START;
        int mix = 0;
        for (int n = 0; n <= MOST; n++) {
            if (isTaken(n)) {
                Due.is("mixed(" + n + ")", usable().mixed(n), mix);
            }
            mix ^= x;
            x = TableModel.NEXT[x];
        }
    }

    private static void befores() {
        Due.sentence("13 before: \"The state from which n steps lead to the state s\", 0 .. 100000");
        int s = 4660;
        int x = s;
        for (int n = 0; n <= MOST; n++) {
            if (isTaken(n)) {
                Due.is("before(" + s + ", " + n + ")", usable().before(s, n), x);
            }
            x = TableModel.PREVIOUS[x];
        }
    }

    private static void aparts() {
        Due.sentence("14 apart: \"The exclusive or of the states that n steps lead to from s and from"
                + " t\", 0 .. 100000");
        int s = 4660;
        int t = 39999;
        int x = s;
        int y = t;
        for (int n = 0; n <= MOST; n++) {
            if (isTaken(n)) {
                Due.is("apart(" + s + ", " + t + ", " + n + ")", usable().apart(s, t, n), x ^ y);
            }
            x = TableModel.NEXT[x];
            y = TableModel.NEXT[y];
        }
    }

    private static void distances() {
        Due.sentence("9 distance: \"The least number of steps, 0 or more, from the current state\"");
        int x = START;
        for (int n = 0; n < TableModel.STATES; n++) {
            if (isTaken(n)) {
                Due.is("distance(" + x + ") at " + START, usable().distance(x), n);
                Due.is("distance(" + START + ") at " + x, at(x).distance(START), n == 0 ? 0 : 65535 - n);
            }
            x = TableModel.NEXT[x];
        }
    }

    private static void betweens() {
        Due.sentence("10 between: \"from the state of mark m to that of mark n\"");
        int x = START;
        for (int n = 0; n < TableModel.STATES; n++) {
            if (isTaken(n)) {
                JumpGenerator g = at(START);
                g.mark(n % 8);
                g.seed(x);
                g.mark((n + 3) % 8);
                g.seed(1);
                String where = ") at " + START + " and " + x;
                Due.is("between(there" + where, g.between(n % 8, (n + 3) % 8), n);
                Due.is("between(back" + where, g.between((n + 3) % 8, n % 8), n == 0 ? 0 : 65535 - n);
            }
            x = TableModel.NEXT[x];
        }
    }
}
