/** Promise 7: clean forgets the last record, not the store. */
public final class Promise07CleanTest {
    public static void main(String[] args) {
        answersWhetherThereWasOne();
        forgetsTheLastRecordAlone();
        forgetsForOneTaskAlone();
        wrongTasks();
        Due.end();
    }

    private static void answersWhetherThereWasOne() {
        BuildGraph x = new BuildGraph();
        x.task(0, 0);
        Due.due("clean before a build", x.clean(0), 0);
        x.build(0);
        Due.due("clean after a build", x.clean(0), 1);
        Due.due("clean again", x.clean(0), 0);
        x.build(0);
        Due.due("clean after a build from the store", x.clean(0), 1);
        x.build(0);
        x.build(0);
        x.constant(0, 9);
        Due.due("clean of a stale task", x.clean(0), 1);
    }

    private static void forgetsTheLastRecordAlone() {
        BuildGraph x = new BuildGraph();
        x.task(0, 7);
        x.build(0);
        x.clean(0);
        Due.due("status after clean", x.status(0), BuildGraph.EXECUTED);
        Due.due("output after clean", x.output(0), 7);
        Due.due("executed after clean", x.executed(), 1);
        Due.due("stale after clean", x.stale(), 1);
        Due.due("work after clean", x.work(0), 0);
        Due.due("build after clean", x.build(0), 0);
        Due.due("status after that", x.status(0), BuildGraph.FROM_STORE);
        Due.due("stale after that", x.stale(), 0);
    }

    private static void forgetsForOneTaskAlone() {
        BuildGraph x = new BuildGraph();
        x.task(0, 7);
        Due.taskOf(x, 0, 0, 8);
        Due.taskOf(x, 0, 0, 9);
        x.build(2);
        x.clean(1);
        Due.due("stale after clean(1)", x.stale(), 1);
        x.build(2);
        Due.due("status(0)", x.status(0), BuildGraph.UP_TO_DATE);
        Due.due("status(1)", x.status(1), BuildGraph.FROM_STORE);
        Due.due("status(2)", x.status(2), BuildGraph.UP_TO_DATE);
    }

    private static void wrongTasks() {
        BuildGraph x = new BuildGraph();
        x.task(0, 7);
        x.build(0);
        for (int task : Due.outside(1)) {
            Due.due("clean(" + task + ")", x.clean(task), BuildGraph.BAD_TASK);
        }
        Due.due("stale after wrong cleans", x.stale(), 0);
    }
}
