/** Promise 3: task. */
public final class Promise03TaskTest {
    private static final String ADDS = "Adds a task without inputs, kind & 3.";
    private static final String TWELVE = "There are twelve: FULL, nothing changes.";
    private static final String NUMBER = "Else answers its number.";

    public static void main(String[] args) {
        Due.says(ADDS, "without inputs", Promise03TaskTest::aNewTaskHasNoInputs);
        Due.says(ADDS, "not built yet", Promise03TaskTest::aNewTaskIsNotYetBuilt);
        Due.says(ADDS, "kinds 0 to 3", () -> kinds(0, 1, 2, 3));
        Due.says(ADDS, "kinds too large", () -> kinds(4, 5, 6, 7, 256, 257, Integer.MAX_VALUE - 1,
            Integer.MAX_VALUE));
        Due.says(ADDS, "kinds too small", () -> kinds(-1, -2, -3, -4, -5, Integer.MIN_VALUE,
            Integer.MIN_VALUE + 1));
        Due.says(ADDS, "least and greatest constants", Promise03TaskTest::everyConstant);
        Due.says(TWELVE, "a thirteenth", Promise03TaskTest::aThirteenthTask);
        Due.says(TWELVE, "still twelve", Promise03TaskTest::thereAreStillTwelve);
        Due.says(NUMBER, "0 to 11", Promise03TaskTest::numbersAscend);
        Due.end();
    }

    private static void aNewTaskHasNoInputs() {
        BuildGraph x = new BuildGraph();
        for (int source = 0; source < 8; source++) {
            x.content(source, 1000);
        }
        for (int number = 0; number < 12; number++) {
            x.task(0, 1);
            Due.due("needed of a new task", x.needed(number), 1);
            Due.due("fresh of a new task", x.fresh(number), 1);
            Due.due("first input", x.input(number, 0), 1);
        }
    }

    private static void aNewTaskIsNotYetBuilt() {
        BuildGraph x = new BuildGraph();
        x.task(0, 4);
        x.build(0);
        x.task(0, 4);
        Due.due("status of a new task", x.status(1), BuildGraph.NOT_NEEDED);
        Due.due("output of a new task", x.output(1), 0);
        Due.due("stale with a new task", x.stale(), 1);
        Due.due("clean of a new task", x.clean(1), 0);
        Due.due("status of the old task", x.status(0), BuildGraph.EXECUTED);
    }

    private static void kinds(int... kinds) {
        // Of constant 20 and the values 30 and 9.
        int[] outputs = {59, (20 * 31 + 30) * 31 + 9, 30, 39 & 15};
        for (int kind : kinds) {
            BuildGraph x = new BuildGraph();
            x.content(0, 30);
            x.content(1, 9);
            Due.due("task(" + kind + ", 20)", Due.taskOf(x, kind, 20, 0, 1), 0);
            Due.due("fresh of kind " + kind, x.fresh(0), outputs[kind & 3]);
        }
    }

    private static void everyConstant() {
        for (int constant : new int[] {Integer.MIN_VALUE, -4, -1, 0, 1, Integer.MAX_VALUE}) {
            BuildGraph x = new BuildGraph();
            Due.due("task(0, " + constant + ")", x.task(0, constant), 0);
            Due.due("fresh(0)", x.fresh(0), constant);
            Due.due("constant(0, 7)", x.constant(0, 7), constant);
        }
    }

    private static void aThirteenthTask() {
        for (int kind : new int[] {0, 1, 2, 3, -1, 4}) {
            Twins.changesNothing(Twins.ALL_TAKEN, "task(" + kind + ", 77)", x -> x.task(kind, 77),
                BuildGraph.FULL);
        }
    }

    private static void thereAreStillTwelve() {
        BuildGraph x = new BuildGraph();
        for (int number = 0; number < 12; number++) {
            x.task(number, 10 * number);
        }
        for (int again = 0; again < 3; again++) {
            Due.due("a thirteenth task", x.task(1, 77), BuildGraph.FULL);
        }
        Due.due("status(12)", x.status(12), BuildGraph.BAD_TASK);
        Due.due("stale with twelve tasks", x.stale(), 12);
        for (int number = 0; number < 12; number++) {
            Due.due("constant after FULL", x.constant(number, 0), 10 * number);
        }
    }

    private static void numbersAscend() {
        BuildGraph x = new BuildGraph();
        for (int number = 0; number < 12; number++) {
            Due.due("task", x.task(number, -number), number);
            Due.due("constant", x.constant(number, 0), -number);
        }
    }
}
