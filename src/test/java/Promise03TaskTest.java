/** Promise 3: task adds a task without inputs; kind & 3; there are at most twelve. */
public final class Promise03TaskTest {
    public static void main(String[] args) {
        numbersAscendUpToTwelve();
        kindIsTakenModuloFour();
        aNewTaskHasNoInputs();
        aNewTaskIsNotYetBuilt();
        Due.end();
    }

    private static void numbersAscendUpToTwelve() {
        BuildGraph x = new BuildGraph();
        for (int number = 0; number < 12; number++) {
            Due.due("task", x.task(number, 10 * number), number);
        }
        Due.due("the thirteenth task", x.task(1, 77), BuildGraph.FULL);
        Due.due("the thirteenth task again", x.task(-1, -1), BuildGraph.FULL);
        Due.due("status of a thirteenth task", x.status(12), BuildGraph.BAD_TASK);
        Due.due("stale with twelve tasks", x.stale(), 12);
        for (int number = 0; number < 12; number++) {
            Due.due("constant after FULL", x.constant(number, 0), 10 * number);
        }
    }

    private static void kindIsTakenModuloFour() {
        int[] kinds = {0, 1, 2, 3, 4, 5, 6, 7, -1, -2, -3, -4,
            Integer.MAX_VALUE, Integer.MIN_VALUE, Integer.MIN_VALUE + 1};
        // Of constant 20 and the values 30 and 9.
        int[] outputs = {59, (20 * 31 + 30) * 31 + 9, 30, 39 & 15};
        for (int kind : kinds) {
            BuildGraph x = new BuildGraph();
            x.content(0, 30);
            x.content(1, 9);
            Due.due("task(" + kind + ", 20)", Due.taskOf(x, kind, 20, 0, 1), 0);
            Due.due("fresh of kind " + kind, x.fresh(0), outputs[kind & 3]);
        }
    }

    private static void aNewTaskHasNoInputs() {
        BuildGraph x = new BuildGraph();
        for (int number = 0; number < 12; number++) {
            x.task(0, 1);
            Due.due("needed of a new task", x.needed(number), 1);
            Due.due("first input", x.input(number, 0), 1);
        }
    }

    private static void aNewTaskIsNotYetBuilt() {
        BuildGraph x = new BuildGraph();
        x.task(0, 4);
        x.build(0);
        x.task(0, 4);
        Due.due("status of a new task", x.status(1), BuildGraph.NOT_NEEDED);
        Due.due("output of a new task", x.output(1), 0);
        Due.due("stale with a new task", x.stale(), 1);
        Due.due("clean of a new task", x.clean(1), 0);
        Due.due("status of the old task", x.status(0), BuildGraph.EXECUTED);
    }
}
