/** The section "Terms" of the document, a test for each of its sentences. */
public final class TermsTest {
    private static final int STATES = 65535;
    private static final int CALLS = 512;

    public static void main(String[] args) {
        aStateIsANumberFrom1To65535();
        aStepIsThreeChanges();
        nextStatesAreDifferent();
        noNextStateIs0();
        thereIsOneCurrentState();
        theCurrentStateIs1AtFirst();
        eachMarkHoldsAStateOrNothing();
        marksKeepTheirStates();
        Due.end();
    }

    private static JumpGenerator at(int state) {
        JumpGenerator g = new JumpGenerator();
        g.seed(state);
        return g;
    }

    private static void aStateIsANumberFrom1To65535() {
        Due.sentence("\"A STATE is a number from 1 to 65535\"");
        JumpGenerator g = new JumpGenerator();
        for (int s = -70000; s <= 140000; s++) {
            if (s % CALLS == 0) {
                g = new JumpGenerator();
            }
            Due.is("seed(" + s + ")", g.seed(s), s >= 1 && s <= STATES);
        }
    }

    // The document's words one by one; the cast cuts a number to its lowest 16 bits.
    private static int stepByWords(int state) {
        char x = (char) state;
        char left7 = (char) (x << 7);
        x = (char) (x ^ left7);
        char right9 = (char) (x >> 9);
        x = (char) (x ^ right9);
        char left8 = (char) (x << 8);
        return (char) (x ^ left8);
    }

    private static void aStepIsThreeChanges() {
        Due.sentence("\"A STEP makes of a state x the state that one gets by three changes\"");
        for (int x = 1; x <= STATES; x++) {
            Due.is("next() at " + x, at(x).next(), stepByWords(x));
            Due.is("the model's step at " + x, TableModel.NEXT[x], stepByWords(x));
        }
    }

    private static void nextStatesAreDifferent() {
        Due.sentence("\"Different states have different next states\"");
        int[] cameFrom = new int[STATES + 1];
        for (int x = 1; x <= STATES; x++) {
            int next = at(x).next() & STATES;
            Due.is("another state before " + x + " with the next state " + next, cameFrom[next], 0);
            cameFrom[next] = x;
        }
    }

    private static void noNextStateIs0() {
        Due.sentence("\"no state has 0 as its next one\"");
        for (int x = 1; x <= STATES; x++) {
            int next = at(x).next();
            Due.is("next() at " + x + " is a state", next >= 1 && next <= STATES, true);
        }
    }

    /** Every call that looks at the current state sees the same one. */
    private static void isCurrent(String after, JumpGenerator g, int x) {
        String where = " after " + after;
        Due.is("state()" + where, g.state(), x);
        Due.is("peek(0)" + where, g.peek(0), x);
        Due.is("peek(1)" + where, g.peek(1), TableModel.NEXT[x]);
        Due.is("distance(" + x + ")" + where, g.distance(x), 0);
        Due.is("mixed(1)" + where, g.mixed(1), x);
        Due.is("period()" + where, g.period(), 65535);
        for (int k = 0; k <= 8; k++) {
            Due.is("nextRound(" + k + ")" + where, g.nextRound(k) == 0, x % (1 << k) == 0);
        }
        Due.is("mark(5)" + where, g.mark(5), true);
        Due.is("next()" + where, g.next(), TableModel.NEXT[x]);
        Due.is("back(5)" + where, g.back(5), true);
        Due.is("jump(-1)" + where, g.jump(-1), TableModel.PREVIOUS[x]);
        Due.is("jump(1)" + where, g.jump(1), x);
    }

    private static void thereIsOneCurrentState() {
        Due.sentence("\"There is one current state\"");
        JumpGenerator g = at(4660);
        isCurrent("seed(4660)", g, 4660);
        g.mark(2);
        isCurrent("mark(2)", g, 4660);
        g.next();
        isCurrent("next()", g, TableModel.NEXT[4660]);
        g.jump(777);
        isCurrent("jump(777)", g, TableModel.walk(4660, 778));
        g.jump(-1555);
        isCurrent("jump(-1555)", g, TableModel.walk(4660, -777));
        g.back(2);
        isCurrent("back(2)", g, 4660);
        g.seed(256);
        isCurrent("seed(256)", g, 256);
        g.before(9, 9);
        g.apart(7, 8, 9);
        isCurrent("before and apart", g, 256);
    }

    private static void theCurrentStateIs1AtFirst() {
        Due.sentence("\"1 at first\"");
        isCurrent("new", new JumpGenerator(), 1);
        JumpGenerator earlier = new JumpGenerator();
        JumpGenerator g = new JumpGenerator();
        earlier.seed(65535);
        earlier.mark(5);
        isCurrent("seed and mark on another object", g, 1);
    }

    // Bit m of filled tells whether mark m is filled: every choice of marks once.
    private static void eachMarkHoldsAStateOrNothing() {
        Due.sentence("\"eight MARKS 0 .. 7, each of which holds a state or nothing\"");
        for (int filled = 0; filled < 256; filled++) {
            JumpGenerator g = new JumpGenerator();
            int x = 1;
            for (int m = 0; m < 8; m++) {
                if ((filled >> m) % 2 == 1) {
                    x = stateFor(filled, m);
                    g.seed(x);
                    Due.is("mark(" + m + ")", g.mark(m), true);
                }
            }
            for (int m = 0; m < 8; m++) {
                boolean holds = (filled >> m) % 2 == 1;
                String where = " with the marks " + filled;
                Due.is("between(" + m + ", " + m + ")" + where, g.between(m, m), holds ? 0 : -1);
                Due.is("back(" + m + ")" + where, g.back(m), holds);
                x = holds ? stateFor(filled, m) : x;
                Due.is("state() after back(" + m + ")" + where, g.state(), x);
            }
        }
    }

    private static int stateFor(int filled, int m) {
        return 1 + (filled * 8 + m) * 32 % STATES;
    }

    private static void marksKeepTheirStates() {
        Due.sentence("\"each of which holds a state\", each of 1 .. 65535");
        for (int x = 1; x <= STATES; x++) {
            JumpGenerator g = at(x);
            int m = x % 8;
            g.mark(m);
            g.next();
            Due.is("back(" + m + ") to " + x, g.back(m), true);
            Due.is("state() after back(" + m + ") to " + x, g.state(), x);
        }
    }
}
