/** Promise 13: work tells how many tasks a build, now, would execute. */
public final class Promise13WorkTest {
    public static void main(String[] args) {
        isWhatTheBuildThenAnswers();
        countsTheNeededTasksAlone();
        changesNothing();
        wrongTasks();
        Due.end();
    }

    private static void isWhatTheBuildThenAnswers() {
        BuildGraph x = new BuildGraph();
        Due.taskOf(x, 3, 0, 0);
        Due.taskOf(x, 0, 1, 8, 1);
        Due.taskOf(x, 1, 2, 9, 8);
        both(x, 2, 3);
        both(x, 2, 0);
        x.content(0, 16);
        both(x, 2, 1);
        x.content(0, 1);
        both(x, 2, 3);
        x.content(0, 0);
        both(x, 2, 0);
        x.content(1, 4);
        both(x, 1, 1);
        both(x, 2, 1);
        x.emptyStore();
        x.content(1, 0);
        both(x, 0, 0);
        both(x, 2, 2);
    }

    private static void both(BuildGraph x, int task, int executed) {
        Due.due("work(" + task + ")", x.work(task), executed);
        Due.due("build(" + task + ")", x.build(task), executed);
    }

    private static void countsTheNeededTasksAlone() {
        BuildGraph x = new BuildGraph();
        x.task(0, 0);
        x.task(0, 0);
        Due.taskOf(x, 0, 0, 9);
        Due.due("work(0)", x.work(0), 1);
        Due.due("work(2)", x.work(2), 2);
    }

    private static void changesNothing() {
        BuildGraph x = new BuildGraph();
        x.task(0, 9);
        Due.due("work(0)", x.work(0), 1);
        Due.due("work(0) again", x.work(0), 1);
        Due.due("executed after work", x.executed(), 0);
        Due.due("status after work", x.status(0), BuildGraph.NOT_NEEDED);
        Due.due("output after work", x.output(0), 0);
        Due.due("stale after work", x.stale(), 1);
        Due.due("clean after work", x.clean(0), 0);
        for (int i = 0; i < 45; i++) {
            x.work(0);
        }
        Due.due("build after work", x.build(0), 1);
    }

    private static void wrongTasks() {
        BuildGraph x = new BuildGraph();
        x.task(0, 0);
        for (int task : Due.outside(1)) {
            Due.due("work(" + task + ")", x.work(task), BuildGraph.BAD_TASK);
        }
    }
}
