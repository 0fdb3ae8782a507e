/** Promise 9: status tells what became of a task in the last build. */
public final class Promise09StatusTest {
    public static void main(String[] args) {
        notNeededBeforeAnyBuild();
        everyStatusInOneBuild();
        notNeededInTheLastBuild();
        wrongTasks();
        Due.end();
    }

    private static void notNeededBeforeAnyBuild() {
        BuildGraph x = new BuildGraph();
        x.task(0, 0);
        Due.due("status before any build", x.status(0), BuildGraph.NOT_NEEDED);
    }

    private static void everyStatusInOneBuild() {
        BuildGraph x = new BuildGraph();
        Due.taskOf(x, 0, 0, 0);
        Due.taskOf(x, 0, 0, 1);
        Due.taskOf(x, 0, 0, 2);
        Due.taskOf(x, 0, 0, 3);
        Due.taskOf(x, 0, 0, 8, 9, 10);
        x.build(4);
        x.build(3);
        x.content(1, 1);
        x.build(4);
        x.content(1, 0);
        x.content(2, 5);
        Due.due("build(4)", x.build(4), 2);
        int[] statuses = {BuildGraph.UP_TO_DATE, BuildGraph.FROM_STORE, BuildGraph.EXECUTED,
            BuildGraph.NOT_NEEDED, BuildGraph.EXECUTED};
        for (int t = 0; t < 5; t++) {
            Due.due("status(" + t + ")", x.status(t), statuses[t]);
            Due.due("status(" + t + ") again", x.status(t), statuses[t]);
        }
    }

    private static void notNeededInTheLastBuild() {
        BuildGraph x = new BuildGraph();
        x.task(0, 0);
        x.task(0, 1);
        x.build(0);
        x.build(1);
        Due.due("status(0)", x.status(0), BuildGraph.NOT_NEEDED);
        Due.due("status(1)", x.status(1), BuildGraph.EXECUTED);
        x.build(0);
        Due.due("status(0)", x.status(0), BuildGraph.UP_TO_DATE);
        Due.due("status(1)", x.status(1), BuildGraph.NOT_NEEDED);
    }

    private static void wrongTasks() {
        BuildGraph x = new BuildGraph();
        x.task(0, 0);
        x.build(0);
        for (int task : Due.outside(1)) {
            Due.due("status(" + task + ")", x.status(task), BuildGraph.BAD_TASK);
        }
    }
}
