/** Promise 10: output. */
public final class Promise10OutputTest {
    private static final String SENTENCE = "What the task's output was in the last build in which "
        + "it was needed; 0 if there was none, or there is no such task.";

    public static void main(String[] args) {
        Due.says(SENTENCE, "later changes", Promise10OutputTest::laterChangesDoNotMatter);
        Due.says(SENTENCE, "later builds without it", Promise10OutputTest::laterBuildsWithoutIt);
        Due.says(SENTENCE, "up to date and from the store", Promise10OutputTest::inEachCase);
        Due.says(SENTENCE, "least and greatest", Promise10OutputTest::leastAndGreatest);
        Due.says(SENTENCE, "after clean and emptyStore", Promise10OutputTest::afterForgetting);
        Due.says(SENTENCE, "no build yet", Promise10OutputTest::noBuildYet);
        Due.says(SENTENCE, "builds without it alone", Promise10OutputTest::onlyBuildsWithoutIt);
        Due.says(SENTENCE, "too small", () -> Twins.tooSmall("output", BuildGraph::output, 0));
        Due.says(SENTENCE, "too large", () -> Twins.tooLargeTask("output", BuildGraph::output, 0));
        Due.says(SENTENCE, "no task yet", () -> Twins.noTaskYet("output", BuildGraph::output, 0));
        Due.end();
    }

    private static void laterChangesDoNotMatter() {
        BuildGraph x = new BuildGraph();
        Due.taskOf(x, 0, 1, 0);
        Due.taskOf(x, 0, 10, 8);
        x.build(1);
        x.content(0, 100);
        x.constant(1, 1000);
        x.input(1, 0);
        Due.outputs(x, 1, 11);
    }

    private static void laterBuildsWithoutIt() {
        BuildGraph x = new BuildGraph();
        Due.taskOf(x, 0, 1, 0);
        Due.taskOf(x, 0, 10, 8);
        x.build(1);
        x.content(0, 100);
        x.build(0);
        Due.outputs(x, 101, 11);
        x.build(1);
        Due.outputs(x, 101, 111);
    }

    private static void inEachCase() {
        BuildGraph x = new BuildGraph();
        Due.taskOf(x, 1, 1, 0, 1);
        for (int round = 0; round < 2; round++) {
            for (int content = 0; content < 5; content++) {
                x.content(0, content);
                x.build(0);
                Due.due("status(0)", x.status(0), round == 0 ? BuildGraph.EXECUTED : BuildGraph.FROM_STORE);
                Due.outputs(x, (31 + content) * 31);
            }
        }
        x.build(0);
        Due.statuses(x, BuildGraph.UP_TO_DATE);
        Due.outputs(x, (31 + 4) * 31);
    }

    private static void leastAndGreatest() {
        BuildGraph x = new BuildGraph();
        Due.taskOf(x, 0, 0, 0);
        for (int content : new int[] {Integer.MIN_VALUE, Integer.MAX_VALUE, -1, 0}) {
            x.content(0, content);
            x.build(0);
            Due.outputs(x, content);
        }
    }

    private static void afterForgetting() {
        BuildGraph x = new BuildGraph();
        x.task(0, 6);
        x.build(0);
        x.clean(0);
        x.emptyStore();
        Due.outputs(x, 6);
    }

    private static void noBuildYet() {
        BuildGraph x = new BuildGraph();
        for (int t = 0; t < 12; t++) {
            x.task(0, 5);
            Due.due("output(" + t + ")", x.output(t), 0);
        }
        x.build(12);
        Due.outputs(x, 0, 0, 0, 0, 0, 0, 0, 0, 0, 0, 0, 0);
    }

    private static void onlyBuildsWithoutIt() {
        BuildGraph x = new BuildGraph();
        x.task(0, 5);
        x.task(0, 6);
        x.task(0, 7);
        x.build(1);
        x.build(1);
        Due.outputs(x, 0, 6, 0);
    }
}
