/** Promise 11: fresh. The kinds stand in TermsKindsTest. */
public final class Promise11FreshTest {
    private static final String SENTENCE =
        "What the task's output would be if it were worked out now; 0 if there is no such task.";

    public static void main(String[] args) {
        Due.says(SENTENCE, "before any build", Promise11FreshTest::beforeAnyBuild);
        Due.says(SENTENCE, "through twelve tasks", Promise11FreshTest::looksThroughTasks);
        Due.says(SENTENCE, "after every change", Promise11FreshTest::afterEveryChange);
        Due.says(SENTENCE, "forty builds made", Promise11FreshTest::whereBuildIsFull);
        Due.says(SENTENCE, "too small", () -> Twins.tooSmall("fresh", BuildGraph::fresh, 0));
        Due.says(SENTENCE, "too large", () -> Twins.tooLargeTask("fresh", BuildGraph::fresh, 0));
        Due.says(SENTENCE, "no task yet", () -> Twins.noTaskYet("fresh", BuildGraph::fresh, 0));
        Due.end();
    }

    private static void beforeAnyBuild() {
        BuildGraph x = new BuildGraph();
        x.content(0, 3);
        Due.taskOf(x, 0, 4, 0);
        Due.taskOf(x, 0, 5, 8);
        Due.due("fresh(1)", x.fresh(1), 12);
        Due.due("fresh(0)", x.fresh(0), 7);
    }

    private static void looksThroughTasks() {
        BuildGraph x = Due.chainOfTwelve();
        x.build(11);
        x.content(0, 1000);
        for (int number = 0; number < 12; number++) {
            Due.due("fresh(" + number + ")", x.fresh(number), 1001 + number);
            Due.due("output(" + number + ")", x.output(number), 1 + number);
        }
    }

    private static void afterEveryChange() {
        BuildGraph x = new BuildGraph();
        Due.taskOf(x, 0, 1, 0);
        Due.taskOf(x, 0, 2, 8);
        x.build(1);
        Due.due("fresh(1)", x.fresh(1), 3);
        x.constant(0, 10);
        Due.due("fresh(1) after constant", x.fresh(1), 12);
        x.content(0, 100);
        Due.due("fresh(1) after content", x.fresh(1), 112);
        x.input(0, 0);
        Due.due("fresh(1) after input", x.fresh(1), 212);
        x.clean(0);
        x.emptyStore();
        Due.due("fresh(1) after clean and emptyStore", x.fresh(1), 212);
    }

    private static void whereBuildIsFull() {
        BuildGraph x = new BuildGraph();
        Due.taskOf(x, 0, 1, 0);
        for (int build = 1; build <= 40; build++) {
            x.build(0);
        }
        x.content(0, 6);
        Due.build(x, 0, BuildGraph.FULL);
        Due.due("fresh(0)", x.fresh(0), 7);
        Due.due("output(0)", x.output(0), 1);
    }
}
