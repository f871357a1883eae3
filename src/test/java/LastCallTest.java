import java.util.function.ToIntFunction;

/** An object is used for at most 512 calls: the last of these is answered as the first is. */
public final class LastCallTest {
    private static final int CALLS = 512;
    private static final int NONE = -1;

    public static void main(String[] args) {
        Due.sentence("What it is: \"at most 512 calls\", calls that change the state");
        changesUpToTheLastCall();
        Due.sentence("What it is: \"at most 512 calls\", calls that only answer");
        answersUpToTheLastCall();
        Due.sentence("What it is: \"at most 512 calls\", calls that are refused");
        refusalsUpToTheLastCall();
        Due.end();
    }

    private static void changesUpToTheLastCall() {
        int[] steps = {1, -1, 100000, -100000, 65535, -65536};
        for (int n : steps) {
            JumpGenerator g = new JumpGenerator();
            int x = 1;
            for (int i = 1; i <= CALLS; i++) {
                x = TableModel.walk(x, n);
                Due.is("jump(" + n + "), call " + i, g.jump(n), x);
            }
        }
        JumpGenerator stepped = new JumpGenerator();
        JumpGenerator marked = new JumpGenerator();
        JumpGenerator seeded = new JumpGenerator();
        int x = 1;
        for (int i = 1; i <= CALLS; i++) {
            x = TableModel.NEXT[x];
            Due.is("next(), call " + i, stepped.next(), x);
            Due.is("seed(), call " + i, seeded.seed(1 + i * 127), true);
            Due.is("mark() or back(), call " + i,
                    i <= 8 ? marked.mark(i - 1) : marked.back(i % 8), true);
        }
    }

    private static void alwaysAnswers(String call, ToIntFunction<JumpGenerator> made, int due) {
        JumpGenerator g = new JumpGenerator();
        for (int i = 1; i <= CALLS; i++) {
            Due.is(call + ", call " + i, made.applyAsInt(g), due);
        }
    }

    private static void answersUpToTheLastCall() {
        TableModel model = new TableModel();
        alwaysAnswers("state()", g -> g.state(), 1);
        alwaysAnswers("peek(-100000)", g -> g.peek(-100000), model.peek(-100000));
        alwaysAnswers("distance(49537)", g -> g.distance(49537), 65534);
        alwaysAnswers("mixed(100000)", g -> g.mixed(100000), model.mixed(100000));
        alwaysAnswers("period()", g -> g.period(), 65535);
        alwaysAnswers("before(1, 100000)", g -> g.before(1, 100000), model.before(1, 100000));
        alwaysAnswers("apart(1, 2, 100000)", g -> g.apart(1, 2, 100000), model.apart(1, 2, 100000));
        alwaysAnswers("nextRound(8)", g -> g.nextRound(8), model.nextRound(8));
        JumpGenerator g = new JumpGenerator();
        g.mark(0);
        g.jump(-1);
        g.mark(7);
        for (int i = 4; i <= CALLS; i++) {
            Due.is("between(0, 7), call " + i, g.between(0, 7), 65534);
        }
    }

    private static void refusalsUpToTheLastCall() {
        alwaysAnswers("seed(0)", g -> g.seed(0) ? 1 : 0, 0);
        alwaysAnswers("jump(100001)", g -> g.jump(100001), NONE);
        alwaysAnswers("mark(8)", g -> g.mark(8) ? 1 : 0, 0);
        alwaysAnswers("back(0)", g -> g.back(0) ? 1 : 0, 0);
        alwaysAnswers("between(0, 0)", g -> g.between(0, 0), NONE);
        JumpGenerator g = new JumpGenerator();
        g.seed(65535);
        for (int i = 2; i < CALLS; i++) {
            g.seed(65536);
        }
        Due.is("state(), the last call", g.state(), 65535);
    }
}
