/** Promise 10: output is that of the last build in which the task was needed. */
public final class Promise10OutputTest {
    public static void main(String[] args) {
        zeroBeforeABuild();
        staysFromTheLastBuildThatNeededIt();
        isRightFromTheStore();
        wrongTasks();
        Due.end();
    }

    private static void zeroBeforeABuild() {
        BuildGraph x = new BuildGraph();
        x.task(0, 5);
        x.task(0, 6);
        Due.due("output before a build", x.output(0), 0);
        x.build(1);
        Due.due("output of a task not needed", x.output(0), 0);
        Due.due("output of a task needed", x.output(1), 6);
    }

    private static void staysFromTheLastBuildThatNeededIt() {
        BuildGraph x = new BuildGraph();
        Due.taskOf(x, 0, 1, 0);
        Due.taskOf(x, 0, 10, 8);
        x.build(1);
        x.content(0, 100);
        Due.due("output(0) before the next build", x.output(0), 1);
        Due.due("output(1) before the next build", x.output(1), 11);
        x.build(0);
        Due.due("output(0) after build(0)", x.output(0), 101);
        Due.due("output(1) after build(0)", x.output(1), 11);
        x.build(1);
        Due.due("output(1) after build(1)", x.output(1), 111);
    }

    private static void isRightFromTheStore() {
        BuildGraph x = new BuildGraph();
        Due.taskOf(x, 1, 1, 0, 1);
        for (int round = 0; round < 2; round++) {
            for (int content = 0; content < 5; content++) {
                x.content(0, content);
                x.build(0);
                Due.due("output", x.output(0), (31 + content) * 31);
            }
        }
        Due.due("status", x.status(0), BuildGraph.FROM_STORE);
    }

    private static void wrongTasks() {
        BuildGraph x = new BuildGraph();
        x.task(0, 5);
        x.build(0);
        for (int task : Due.outside(1)) {
            Due.due("output(" + task + ")", x.output(task), 0);
        }
    }
}
