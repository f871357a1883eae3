/** A step forwards and a step backwards from each of the 65535 states. */
public final class EveryStateTest {
    // An object is used for at most 512 calls; six are spent on each state.
    private static final int STATES_AN_OBJECT = 80;

    public static void main(String[] args) {
        JumpGenerator g = new JumpGenerator();
        for (int x = 1; x <= TableModel.STATES; x++) {
            if (x % STATES_AN_OBJECT == 0) {
                g = new JumpGenerator();
            }
            Due.is("seed(" + x + ")", g.seed(x), true);
            Due.is("state() at " + x, g.state(), x);
            Due.is("before(" + x + ", 1)", g.before(x, 1), TableModel.PREVIOUS[x]);
            Due.is("peek(-1) at " + x, g.peek(-1), TableModel.PREVIOUS[x]);
            Due.is("next() at " + x, g.next(), TableModel.NEXT[x]);
            Due.is("jump(-1) after next() at " + x, g.jump(-1), x);
        }
        Due.end();
    }
}
