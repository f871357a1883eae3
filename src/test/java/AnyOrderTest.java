import java.util.ArrayList;
import java.util.List;
import java.util.function.ToIntFunction;

/**
 * The methods follow each other in any order: every three calls out of a list, on a new object
 * and on one with two marks, against the model, with a look at all that they may have changed.
 */
public final class AnyOrderTest {
    private static final class Call {
        final String name;
        final ToIntFunction<JumpGenerator> onObject;
        final ToIntFunction<TableModel> onModel;

        Call(String name, ToIntFunction<JumpGenerator> onObject, ToIntFunction<TableModel> onModel) {
            this.name = name;
            this.onObject = onObject;
            this.onModel = onModel;
        }
    }

    private static final List<Call> CALLS = new ArrayList<>();

    public static void main(String[] args) {
        listCallsThatChange();
        listCallsThatAnswer();
        listRefusedCalls();
        Due.sentence("1 to 15: three calls in any order, on a new object");
        everyThreeCalls(false);
        Due.sentence("1 to 15: three calls in any order, on an object with marks 0 and 7");
        everyThreeCalls(true);
        Due.end();
    }

    private static int number(boolean answer) {
        return answer ? 1 : 0;
    }

    private static void list(String name, ToIntFunction<JumpGenerator> onObject,
            ToIntFunction<TableModel> onModel) {
        CALLS.add(new Call(name, onObject, onModel));
    }

    private static void listCallsThatChange() {
        list("seed(40000)", g -> number(g.seed(40000)), m -> number(m.seed(40000)));
        list("next()", g -> g.next(), m -> m.next());
        list("jump(9)", g -> g.jump(9), m -> m.jump(9));
        list("jump(-6)", g -> g.jump(-6), m -> m.jump(-6));
        list("mark(0)", g -> number(g.mark(0)), m -> number(m.mark(0)));
        list("mark(3)", g -> number(g.mark(3)), m -> number(m.mark(3)));
        list("back(0)", g -> number(g.back(0)), m -> number(m.back(0)));
        list("back(7)", g -> number(g.back(7)), m -> number(m.back(7)));
    }

    private static void listCallsThatAnswer() {
        list("state()", g -> g.state(), m -> m.state);
        list("peek(5)", g -> g.peek(5), m -> m.peek(5));
        list("peek(-5)", g -> g.peek(-5), m -> m.peek(-5));
        list("distance(33153)", g -> g.distance(33153), m -> m.distance(33153));
        list("between(0, 7)", g -> g.between(0, 7), m -> m.between(0, 7));
        list("between(3, 0)", g -> g.between(3, 0), m -> m.between(3, 0));
        list("mixed(4)", g -> g.mixed(4), m -> m.mixed(4));
        list("period()", g -> g.period(), m -> m.period());
        list("before(77, 8)", g -> g.before(77, 8), m -> m.before(77, 8));
        list("apart(77, 78, 8)", g -> g.apart(77, 78, 8), m -> m.apart(77, 78, 8));
        list("nextRound(4)", g -> g.nextRound(4), m -> m.nextRound(4));
    }

    private static void listRefusedCalls() {
        list("seed(0)", g -> number(g.seed(0)), m -> 0);
        list("jump(100001)", g -> g.jump(100001), m -> -1);
        list("peek(-100001)", g -> g.peek(-100001), m -> -1);
        list("mark(8)", g -> number(g.mark(8)), m -> 0);
        list("back(-1)", g -> number(g.back(-1)), m -> 0);
        list("distance(65536)", g -> g.distance(65536), m -> -1);
        list("between(8, 0)", g -> g.between(8, 0), m -> -1);
        list("mixed(-1)", g -> g.mixed(-1), m -> -1);
        list("before(0, 1)", g -> g.before(0, 1), m -> -1);
        list("apart(1, 65536, 1)", g -> g.apart(1, 65536, 1), m -> -1);
        list("nextRound(9)", g -> g.nextRound(9), m -> -1);
    }

    private static void everyThreeCalls(boolean marked) {
        for (Call first : CALLS) {
            for (Call second : CALLS) {
                for (Call third : CALLS) {
                    run(marked, first, second, third);
                }
            }
        }
    }

    private static void run(boolean marked, Call... calls) {
        JumpGenerator g = new JumpGenerator();
        TableModel model = new TableModel();
        if (marked) {
            fillMarks(g, model);
        }
        StringBuilder made = new StringBuilder(marked ? "marked: " : "new: ");
        for (Call call : calls) {
            made.append(call.name).append("; ");
            Due.is(made.toString(), call.onObject.applyAsInt(g), call.onModel.applyAsInt(model));
        }
        lookAtAll(made.toString(), g, model);
    }

    private static void fillMarks(JumpGenerator g, TableModel model) {
        int[][] stateAndMark = {{256, 0}, {4464, 7}};
        for (int[] row : stateAndMark) {
            g.seed(row[0]);
            g.mark(row[1]);
            model.seed(row[0]);
            model.mark(row[1]);
        }
        g.seed(21845);
        model.seed(21845);
    }

    private static void lookAtAll(String made, JumpGenerator g, TableModel model) {
        Due.is(made + "state()", g.state(), model.state);
        for (int m = 0; m < 8; m++) {
            Due.is(made + "back(" + m + ")", g.back(m), model.back(m));
            Due.is(made + "state() after back(" + m + ")", g.state(), model.state);
        }
    }
}
