/** The terms: a build. */
public final class TermsBuildTest {
    private static final String NEEDED = "A BUILD of a task t: the tasks NEEDED are t, the tasks among "
        + "its inputs, the tasks among theirs, and so on.";
    private static final String FATE = "Needed tasks are handled in ascending order of number: its "
        + "record as of now is looked at: if it is the task's last one, the task is UP_TO_DATE; else if "
        + "it is in the store for this task, it is taken FROM_STORE; else it is EXECUTED.";
    private static final String BECOMES = "In each case the record becomes its last one.";
    private static final int NOT_NEEDED = BuildGraph.NOT_NEEDED;
    private static final int UP_TO_DATE = BuildGraph.UP_TO_DATE;
    private static final int FROM_STORE = BuildGraph.FROM_STORE;
    private static final int EXECUTED = BuildGraph.EXECUTED;

    public static void main(String[] args) {
        Due.says(NEEDED, "no inputs", TermsBuildTest::itselfAlone);
        Due.says(NEEDED, "sources alone", TermsBuildTest::sourcesAlone);
        Due.says(NEEDED, "and so on, to twelve", TermsBuildTest::throughTwelve);
        Due.says(NEEDED, "some and not others", TermsBuildTest::someAndNotOthers);
        Due.says(NEEDED, "by two ways", TermsBuildTest::byTwoWays);
        Due.says(NEEDED, "through a task that is up to date", TermsBuildTest::throughUpToDate);
        Due.says(FATE, "ascending", TermsBuildTest::inputsFirst);
        Due.says(FATE, "the last one and in the store", TermsBuildTest::lastBeforeStore);
        Due.says(FATE, "in the store alone", TermsBuildTest::inTheStoreAlone);
        Due.says(FATE, "the last one alone", TermsBuildTest::theLastOneAlone);
        Due.says(FATE, "neither", TermsBuildTest::neither);
        Due.says(FATE, "the same output stops the work", TermsBuildTest::sameOutputStopsTheWork);
        Due.says(BECOMES, "executed", TermsBuildTest::afterExecuted);
        Due.says(BECOMES, "from the store", TermsBuildTest::afterFromStore);
        Due.says(BECOMES, "up to date", TermsBuildTest::afterUpToDate);
        Due.end();
    }

    private static void itselfAlone() {
        BuildGraph x = new BuildGraph();
        x.task(0, 1);
        x.task(0, 2);
        x.task(0, 3);
        Due.build(x, 1, 1);
        Due.statuses(x, NOT_NEEDED, EXECUTED, NOT_NEEDED);
        Due.outputs(x, 0, 2, 0);
    }

    private static void sourcesAlone() {
        BuildGraph x = new BuildGraph();
        x.task(0, 1);
        Due.taskOf(x, 0, 2, 0, 7, 0);
        Due.build(x, 1, 1);
        Due.statuses(x, NOT_NEEDED, EXECUTED);
    }

    private static void throughTwelve() {
        BuildGraph x = Due.chainOfTwelve();
        Due.build(x, 11, 12);
        for (int t = 0; t < 12; t++) {
            Due.due("status(" + t + ")", x.status(t), EXECUTED);
            Due.due("output(" + t + ")", x.output(t), t + 1);
        }
    }

    private static void someAndNotOthers() {
        BuildGraph x = new BuildGraph();
        x.task(0, 1);
        x.task(0, 2);
        Due.taskOf(x, 0, 0, 8);
        Due.taskOf(x, 0, 0, 10, 3);
        Due.taskOf(x, 0, 0, 11);
        Due.build(x, 3, 3);
        Due.statuses(x, EXECUTED, NOT_NEEDED, EXECUTED, EXECUTED, NOT_NEEDED);
        Due.outputs(x, 1, 0, 1, 1, 0);
        Due.build(x, 4, 1);
        Due.build(x, 1, 1);
    }

    private static void byTwoWays() {
        BuildGraph x = new BuildGraph();
        x.task(0, 1);
        Due.taskOf(x, 0, 0, 8, 8);
        Due.taskOf(x, 0, 0, 8);
        Due.taskOf(x, 0, 0, 9, 10, 9);
        Due.build(x, 3, 4);
        Due.outputs(x, 1, 2, 1, 5);
        Due.due("executed()", x.executed(), 4);
    }

    private static void throughUpToDate() {
        BuildGraph x = new BuildGraph();
        x.task(0, 1);
        Due.taskOf(x, 0, 0, 8);
        Due.taskOf(x, 0, 0, 9);
        x.build(2);
        x.clean(0);
        Due.build(x, 2, 0);
        Due.statuses(x, FROM_STORE, UP_TO_DATE, UP_TO_DATE);
    }

    private static void inputsFirst() {
        BuildGraph x = new BuildGraph();
        Due.taskOf(x, 0, 0, 0);
        Due.taskOf(x, 0, 10, 8);
        Due.taskOf(x, 1, 0, 9, 8);
        x.build(2);
        x.content(0, 3);
        Due.build(x, 2, 3);
        // Each is worked out from what its inputs became in this build, not in the one before.
        Due.outputs(x, 3, 13, 13 * 31 + 3);
        Due.build(x, 2, 0);
    }

    private static void lastBeforeStore() {
        BuildGraph x = new BuildGraph();
        x.task(0, 1);
        x.build(0);
        Due.build(x, 0, 0);
        Due.statuses(x, UP_TO_DATE);
    }

    private static void inTheStoreAlone() {
        BuildGraph x = new BuildGraph();
        x.task(0, 1);
        x.build(0);
        x.clean(0);
        Due.build(x, 0, 0);
        Due.statuses(x, FROM_STORE);
    }

    private static void theLastOneAlone() {
        BuildGraph x = new BuildGraph();
        x.task(0, 1);
        x.build(0);
        x.emptyStore();
        Due.build(x, 0, 0);
        Due.statuses(x, UP_TO_DATE);
    }

    private static void neither() {
        BuildGraph x = new BuildGraph();
        x.task(0, 1);
        x.build(0);
        x.clean(0);
        x.emptyStore();
        Due.build(x, 0, 1);
        Due.statuses(x, EXECUTED);
    }

    private static void sameOutputStopsTheWork() {
        BuildGraph x = new BuildGraph();
        x.content(0, 3);
        Due.taskOf(x, 3, 0, 0);
        Due.taskOf(x, 0, 1, 8);
        Due.build(x, 1, 2);
        x.content(0, 19);
        Due.build(x, 1, 1);
        Due.statuses(x, EXECUTED, UP_TO_DATE);
        x.content(0, 20);
        Due.build(x, 1, 2);
        Due.statuses(x, EXECUTED, EXECUTED);
    }

    private static void afterExecuted() {
        BuildGraph x = new BuildGraph();
        Due.taskOf(x, 0, 0, 0);
        x.build(0);
        x.content(0, 1);
        Due.build(x, 0, 1);
        Due.due("stale()", x.stale(), 0);
        Due.build(x, 0, 0);
        Due.statuses(x, UP_TO_DATE);
        Due.due("clean(0)", x.clean(0), 1);
    }

    private static void afterFromStore() {
        BuildGraph x = new BuildGraph();
        Due.taskOf(x, 0, 0, 0);
        x.build(0);
        x.content(0, 1);
        x.build(0);
        x.content(0, 0);
        Due.build(x, 0, 0);
        Due.statuses(x, FROM_STORE);
        Due.due("stale()", x.stale(), 0);
        Due.build(x, 0, 0);
        Due.statuses(x, UP_TO_DATE);
        x.content(0, 1);
        Due.due("stale() with the record before", x.stale(), 1);
    }

    private static void afterUpToDate() {
        BuildGraph x = new BuildGraph();
        x.task(0, 1);
        for (int build = 1; build <= 5; build++) {
            Due.build(x, 0, build == 1 ? 1 : 0);
            Due.statuses(x, build == 1 ? EXECUTED : UP_TO_DATE);
            Due.due("stale()", x.stale(), 0);
        }
        Due.due("clean(0)", x.clean(0), 1);
    }
}
