/** Promise 9: status. */
public final class Promise09StatusTest {
    private static final String SENTENCE = "What became of a task in the last build; NOT_NEEDED if "
        + "it wasn't needed there or there was none; BAD_TASK.";

    public static void main(String[] args) {
        Due.says(SENTENCE, "every status in one build", Promise09StatusTest::everyStatus);
        Due.says(SENTENCE, "the last build alone", Promise09StatusTest::theLastBuildAlone);
        Due.says(SENTENCE, "no build yet", Promise09StatusTest::noBuildYet);
        Due.says(SENTENCE, "needed before, not in the last", Promise09StatusTest::notInTheLast);
        Due.says(SENTENCE, "added after the last build", Promise09StatusTest::addedAfterwards);
        Due.says(SENTENCE, "an input added after the last build", Promise09StatusTest::inputAfterwards);
        Due.says(SENTENCE, "only a refused build", Promise09StatusTest::onlyARefusedBuild);
        Due.says(SENTENCE, "after clean and emptyStore", Promise09StatusTest::afterForgetting);
        Due.says(SENTENCE, "too small", () -> Twins.tooSmall("status", BuildGraph::status,
            BuildGraph.BAD_TASK));
        Due.says(SENTENCE, "too large", () -> Twins.tooLargeTask("status", BuildGraph::status,
            BuildGraph.BAD_TASK));
        Due.says(SENTENCE, "none yet", () -> Twins.noTaskYet("status", BuildGraph::status,
            BuildGraph.BAD_TASK));
        Due.end();
    }

    private static void everyStatus() {
        BuildGraph x = new BuildGraph();
        Due.taskOf(x, 0, 0, 0);
        Due.taskOf(x, 0, 0, 1);
        Due.taskOf(x, 0, 0, 2);
        Due.taskOf(x, 0, 0, 3);
        Due.taskOf(x, 0, 0, 8, 9, 10);
        x.build(4);
        x.build(3);
        x.content(1, 1);
        x.build(4);
        x.content(1, 0);
        x.content(2, 5);
        Due.build(x, 4, 2);
        for (int again = 0; again < 2; again++) {
            Due.statuses(x, BuildGraph.UP_TO_DATE, BuildGraph.FROM_STORE, BuildGraph.EXECUTED,
                BuildGraph.NOT_NEEDED, BuildGraph.EXECUTED);
        }
    }

    private static void theLastBuildAlone() {
        BuildGraph x = new BuildGraph();
        Due.taskOf(x, 0, 0, 0);
        x.build(0);
        Due.statuses(x, BuildGraph.EXECUTED);
        x.build(0);
        Due.statuses(x, BuildGraph.UP_TO_DATE);
        x.clean(0);
        x.build(0);
        Due.statuses(x, BuildGraph.FROM_STORE);
    }

    private static void noBuildYet() {
        BuildGraph x = new BuildGraph();
        for (int t = 0; t < 12; t++) {
            x.task(t, 0);
            Due.due("status(" + t + ")", x.status(t), BuildGraph.NOT_NEEDED);
        }
    }

    private static void notInTheLast() {
        BuildGraph x = new BuildGraph();
        x.task(0, 0);
        x.task(0, 1);
        x.task(0, 2);
        x.build(0);
        Due.statuses(x, BuildGraph.EXECUTED, BuildGraph.NOT_NEEDED, BuildGraph.NOT_NEEDED);
        x.build(2);
        Due.statuses(x, BuildGraph.NOT_NEEDED, BuildGraph.NOT_NEEDED, BuildGraph.EXECUTED);
        x.build(0);
        Due.statuses(x, BuildGraph.UP_TO_DATE, BuildGraph.NOT_NEEDED, BuildGraph.NOT_NEEDED);
    }

    private static void addedAfterwards() {
        BuildGraph x = new BuildGraph();
        x.task(0, 0);
        x.build(0);
        x.task(0, 0);
        Due.statuses(x, BuildGraph.EXECUTED, BuildGraph.NOT_NEEDED);
    }

    private static void inputAfterwards() {
        BuildGraph x = new BuildGraph();
        x.task(0, 0);
        x.task(0, 0);
        x.build(1);
        x.input(1, 8);
        Due.statuses(x, BuildGraph.NOT_NEEDED, BuildGraph.EXECUTED);
    }

    private static void onlyARefusedBuild() {
        BuildGraph x = new BuildGraph();
        x.task(0, 0);
        x.build(1);
        x.build(-1);
        Due.statuses(x, BuildGraph.NOT_NEEDED);
    }

    private static void afterForgetting() {
        BuildGraph x = new BuildGraph();
        x.task(0, 0);
        x.build(0);
        x.clean(0);
        x.emptyStore();
        Due.statuses(x, BuildGraph.EXECUTED);
    }
}
