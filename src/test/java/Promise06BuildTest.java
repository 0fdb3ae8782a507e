/** Promise 6: build, and what the terms say of a build, the record and the store. */
public final class Promise06BuildTest {
    private static final int UP_TO_DATE = BuildGraph.UP_TO_DATE;
    private static final int FROM_STORE = BuildGraph.FROM_STORE;
    private static final int EXECUTED = BuildGraph.EXECUTED;

    public static void main(String[] args) {
        handlesTheNeededTasksAlone();
        goesFromExecutedToUpToDateToStore();
        sameOutputStopsTheWork();
        howManyValuesMatters();
        theOrderOfValuesMatters();
        theStoreIsEachTasksOwn();
        upToDateIsNotKeptInTheStore();
        theStoreKeepsEveryRecord();
        fortyBuilds();
        wrongTasks();
        Due.end();
    }

    private static void handlesTheNeededTasksAlone() {
        BuildGraph x = new BuildGraph();
        x.task(0, 1);
        x.task(0, 2);
        Due.taskOf(x, 0, 0, 8);
        Due.taskOf(x, 0, 0, 10, 3);
        Due.taskOf(x, 0, 0, 11);
        Due.due("build(3)", x.build(3), 3);
        int[] statuses = {EXECUTED, 0, EXECUTED, EXECUTED, 0};
        int[] outputs = {1, 0, 1, 1, 0};
        for (int t = 0; t < 5; t++) {
            Due.due("status(" + t + ")", x.status(t), statuses[t]);
            Due.due("output(" + t + ")", x.output(t), outputs[t]);
        }
        Due.due("build(4)", x.build(4), 1);
        Due.due("build(1)", x.build(1), 1);
    }

    private static void goesFromExecutedToUpToDateToStore() {
        BuildGraph x = new BuildGraph();
        Due.taskOf(x, 0, 0, 0);
        buildOne(x, 1, EXECUTED, 0);
        buildOne(x, 0, UP_TO_DATE, 0);
        x.content(0, 5);
        buildOne(x, 1, EXECUTED, 5);
        x.content(0, 0);
        buildOne(x, 0, FROM_STORE, 0);
        buildOne(x, 0, UP_TO_DATE, 0);
        x.content(0, 5);
        buildOne(x, 0, FROM_STORE, 5);
    }

    private static void buildOne(BuildGraph x, int executed, int status, int output) {
        Due.due("build(0)", x.build(0), executed);
        Due.due("status(0)", x.status(0), status);
        Due.due("output(0)", x.output(0), output);
    }

    private static void sameOutputStopsTheWork() {
        BuildGraph x = new BuildGraph();
        x.content(0, 3);
        Due.taskOf(x, 3, 0, 0);
        Due.taskOf(x, 0, 1, 8);
        Due.due("build(1)", x.build(1), 2);
        x.content(0, 19);
        Due.due("build(1) with the same low bits", x.build(1), 1);
        Due.due("status(0)", x.status(0), EXECUTED);
        Due.due("status(1)", x.status(1), UP_TO_DATE);
        x.content(0, 20);
        Due.due("build(1) with other low bits", x.build(1), 2);
    }

    private static void howManyValuesMatters() {
        BuildGraph x = new BuildGraph();
        x.task(0, 0);
        for (int count = 0; count <= 3; count++) {
            Due.due("build with " + count + " values of 0", x.build(0), 1);
            Due.due("build again", x.build(0), 0);
            Due.due("status", x.status(0), UP_TO_DATE);
            x.input(0, count);
        }
    }

    private static void theOrderOfValuesMatters() {
        BuildGraph x = new BuildGraph();
        Due.taskOf(x, 0, 0, 0, 1, 2);
        int[][] orders = {{1, 2, 3}, {2, 1, 3}, {3, 2, 1}, {1, 3, 2}};
        for (int[] order : orders) {
            for (int source = 0; source < 3; source++) {
                x.content(source, order[source]);
            }
            Due.due("build of the values in another order", x.build(0), 1);
            Due.due("its output", x.output(0), 6);
        }
        x.content(1, 2);
        x.content(2, 3);
        Due.due("build of the first order", x.build(0), 0);
        Due.due("status of the first order", x.status(0), FROM_STORE);
    }

    private static void theStoreIsEachTasksOwn() {
        BuildGraph x = new BuildGraph();
        Due.taskOf(x, 0, 1, 0);
        Due.taskOf(x, 0, 1, 0);
        Due.due("build(0)", x.build(0), 1);
        Due.due("build(1), with the record of task 0", x.build(1), 1);
    }

    private static void upToDateIsNotKeptInTheStore() {
        BuildGraph x = new BuildGraph();
        x.task(0, 1);
        x.build(0);
        x.emptyStore();
        Due.due("build after emptyStore", x.build(0), 0);
        Due.due("status after emptyStore", x.status(0), UP_TO_DATE);
        x.clean(0);
        Due.due("build after clean", x.build(0), 1);
        x.clean(0);
        Due.due("build after clean, once executed", x.build(0), 0);
        Due.due("its status", x.status(0), FROM_STORE);
    }

    private static void theStoreKeepsEveryRecord() {
        BuildGraph x = new BuildGraph();
        for (int number = 0; number < 12; number++) {
            Due.taskOf(x, 1, number, 0, 1, 7);
        }
        for (int content = 1; content <= 40; content++) {
            x.content(7, content);
            Due.due("build(11) of content " + content, x.build(11), 1);
        }
        // Without a last record, only the store can spare the work.
        x.clean(11);
        for (int content = 1; content <= 40; content++) {
            x.content(7, content);
            Due.due("work(11) of content " + content, x.work(11), 0);
            Due.due("work(10) of content " + content, x.work(10), 1);
        }
        x.content(7, 41);
        Due.due("work(11) of a new content", x.work(11), 1);
    }

    private static void fortyBuilds() {
        BuildGraph x = new BuildGraph();
        Due.taskOf(x, 0, 0, 0);
        Due.taskOf(x, 0, 0, 8);
        for (int content = 1; content <= 40; content++) {
            x.content(0, content);
            Due.due("build " + content, x.build(1), 2);
        }
        x.content(0, 41);
        Due.due("build 41", x.build(1), BuildGraph.FULL);
        Due.due("build 41 of another task", x.build(0), BuildGraph.FULL);
        Due.due("executed after FULL", x.executed(), 80);
        Due.due("stale after FULL", x.stale(), 2);
        x.emptyStore();
        Due.due("build after emptyStore", x.build(1), 2);
        for (int build = 2; build <= 40; build++) {
            Due.due("a build with nothing to do", x.build(1), 0);
        }
        Due.due("build 41 after emptyStore", x.build(1), BuildGraph.FULL);
    }

    private static void wrongTasks() {
        BuildGraph x = new BuildGraph();
        x.task(0, 3);
        x.build(0);
        for (int task : Due.outside(1)) {
            for (int i = 0; i < 8; i++) {
                Due.due("build(" + task + ")", x.build(task), BuildGraph.BAD_TASK);
            }
        }
        Due.due("status after wrong builds", x.status(0), EXECUTED);
        Due.due("executed after wrong builds", x.executed(), 1);
        // 48 wrong builds are no builds: forty may still be made.
        Due.due("build after wrong builds", x.build(0), 0);
    }
}
