/** Promise 7: clean. */
public final class Promise07CleanTest {
    private static final String FORGETS =
        "Forgets what a task remembers as its last record (not the store).";
    private static final String REFUSED = "BAD_TASK.";
    private static final String HAD = "Else answers 1 if it had one, 0 if not.";

    public static void main(String[] args) {
        Due.says(FORGETS, "the last record alone", Promise07CleanTest::forgetsTheLastRecordAlone);
        Due.says(FORGETS, "not the store", Promise07CleanTest::notTheStore);
        Due.says(FORGETS, "the store is empty too", Promise07CleanTest::withAnEmptyStore);
        Due.says(FORGETS, "of one task alone", Promise07CleanTest::forgetsForOneTaskAlone);
        Due.says(REFUSED, "too small", () -> Twins.tooSmall("clean", BuildGraph::clean,
            BuildGraph.BAD_TASK));
        Due.says(REFUSED, "too large", () -> Twins.tooLargeTask("clean", BuildGraph::clean,
            BuildGraph.BAD_TASK));
        Due.says(REFUSED, "none yet", () -> Twins.noTaskYet("clean", BuildGraph::clean,
            BuildGraph.BAD_TASK));
        Due.says(HAD, "never built", Promise07CleanTest::neverBuilt);
        Due.says(HAD, "built", Promise07CleanTest::hadOne);
        Due.says(HAD, "twice", Promise07CleanTest::twice);
        Due.says(HAD, "the first and the last task", Promise07CleanTest::firstAndLast);
        Due.says(HAD, "nothing to forget", Promise07CleanTest::nothingToForget);
        Due.end();
    }

    private static void forgetsTheLastRecordAlone() {
        BuildGraph x = new BuildGraph();
        x.task(0, 7);
        x.build(0);
        x.clean(0);
        Due.due("stale after clean", x.stale(), 1);
        Due.due("status after clean", x.status(0), BuildGraph.EXECUTED);
        Due.due("output after clean", x.output(0), 7);
        Due.due("executed after clean", x.executed(), 1);
        Due.due("constant after clean", x.constant(0, 7), 7);
    }

    private static void notTheStore() {
        BuildGraph x = new BuildGraph();
        x.task(0, 7);
        x.build(0);
        x.clean(0);
        Due.due("work after clean", x.work(0), 0);
        Due.build(x, 0, 0);
        Due.statuses(x, BuildGraph.FROM_STORE);
        Due.due("stale after that", x.stale(), 0);
        Due.build(x, 0, 0);
        Due.statuses(x, BuildGraph.UP_TO_DATE);
    }

    private static void withAnEmptyStore() {
        BuildGraph x = new BuildGraph();
        x.task(0, 7);
        x.build(0);
        x.emptyStore();
        x.clean(0);
        Due.due("work(0)", x.work(0), 1);
        Due.build(x, 0, 1);
        Due.statuses(x, BuildGraph.EXECUTED);
    }

    private static void forgetsForOneTaskAlone() {
        BuildGraph x = new BuildGraph();
        x.task(0, 7);
        Due.taskOf(x, 0, 0, 8);
        Due.taskOf(x, 0, 0, 9);
        x.build(2);
        x.clean(1);
        Due.due("stale after clean(1)", x.stale(), 1);
        x.build(2);
        Due.statuses(x, BuildGraph.UP_TO_DATE, BuildGraph.FROM_STORE, BuildGraph.UP_TO_DATE);
    }

    private static void neverBuilt() {
        BuildGraph x = new BuildGraph();
        x.task(0, 0);
        x.task(0, 0);
        Due.due("clean before any build", x.clean(0), 0);
        x.build(1);
        Due.due("clean of a task not needed", x.clean(0), 0);
    }

    private static void hadOne() {
        BuildGraph x = new BuildGraph();
        x.task(0, 0);
        x.build(0);
        Due.due("clean after an executed one", x.clean(0), 1);
        x.build(0);
        Due.due("clean after one from the store", x.clean(0), 1);
        x.build(0);
        x.build(0);
        Due.due("clean after one up to date", x.clean(0), 1);
        x.build(0);
        x.constant(0, 9);
        Due.due("clean of a stale task", x.clean(0), 1);
    }

    private static void twice() {
        BuildGraph x = new BuildGraph();
        x.task(0, 0);
        x.build(0);
        Due.due("clean", x.clean(0), 1);
        Due.due("clean again", x.clean(0), 0);
        Due.due("clean once more", x.clean(0), 0);
    }

    private static void firstAndLast() {
        BuildGraph x = Due.chainOfTwelve();
        x.build(11);
        Due.due("clean(11)", x.clean(11), 1);
        Due.due("clean(0)", x.clean(0), 1);
        Due.due("clean(11)", x.clean(11), 0);
        Due.due("clean(1)", x.clean(1), 1);
    }

    private static void nothingToForget() {
        Twins.changesNothing(Twins.SOME_TASKS, "clean(0)", x -> x.clean(0), 0);
        Twins.changesNothing(Twins.SOME_TASKS, "clean(2)", x -> x.clean(2), 0);
    }
}
