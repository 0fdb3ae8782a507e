/** Promise 5: constant gives a task another constant and answers the old one. */
public final class Promise05ConstantTest {
    public static void main(String[] args) {
        answersTheOldConstant();
        isPartOfTheRecordAtOnce();
        isPartOfTheRecordOfEveryKind();
        wrongTasksChangeNothing();
        Due.end();
    }

    private static void answersTheOldConstant() {
        BuildGraph x = new BuildGraph();
        x.task(0, -9);
        x.task(0, 4);
        int[] constants = {Integer.MAX_VALUE, Integer.MIN_VALUE, 0, -1, -1};
        int old = -9;
        for (int constant : constants) {
            Due.due("constant(0, " + constant + ")", x.constant(0, constant), old);
            Due.due("fresh(0)", x.fresh(0), constant);
            old = constant;
        }
        Due.due("the other task's constant", x.constant(1, 0), 4);
    }

    private static void isPartOfTheRecordAtOnce() {
        BuildGraph x = new BuildGraph();
        x.task(0, 1);
        x.build(0);
        x.constant(0, 2);
        Due.due("output stays until a build", x.output(0), 1);
        Due.due("status stays until a build", x.status(0), BuildGraph.EXECUTED);
        Due.due("stale with another constant", x.stale(), 1);
        x.constant(0, 1);
        Due.due("stale with the constant back", x.stale(), 0);
    }

    private static void isPartOfTheRecordOfEveryKind() {
        for (int kind = 0; kind < 4; kind++) {
            BuildGraph x = new BuildGraph();
            x.task(kind, 1);
            x.build(0);
            x.constant(0, 2);
            Due.due("build of kind " + kind + " with another constant", x.build(0), 1);
        }
    }

    private static void wrongTasksChangeNothing() {
        BuildGraph x = new BuildGraph();
        x.task(0, 3);
        for (int task : Due.outside(1)) {
            Due.due("constant(" + task + ", 8)", x.constant(task, 8), BuildGraph.BAD_TASK);
        }
        Due.due("constant after wrong tasks", x.constant(0, 0), 3);
        Due.due("a later task's constant", x.task(0, 6), 1);
        Due.due("fresh of the later task", x.fresh(1), 6);
    }
}
