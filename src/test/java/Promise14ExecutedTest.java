/** Promise 14: executed. */
public final class Promise14ExecutedTest {
    private static final String SENTENCE =
        "How many tasks were executed in all builds since the start.";

    public static void main(String[] args) {
        Due.says(SENTENCE, "no build yet", Promise14ExecutedTest::noBuildYet);
        Due.says(SENTENCE, "executed ones alone", Promise14ExecutedTest::executedOnesAlone);
        Due.says(SENTENCE, "after emptyStore", Promise14ExecutedTest::afterEmptyStore);
        Due.says(SENTENCE, "after clean", Promise14ExecutedTest::afterClean);
        Due.says(SENTENCE, "refused builds", Promise14ExecutedTest::refusedBuilds);
        Due.says(SENTENCE, "the most in forty builds", Promise14ExecutedTest::theMost);
        Due.end();
    }

    private static void executed(BuildGraph x, int want) {
        Due.due("executed()", x.executed(), want);
        Due.due("executed() again", x.executed(), want);
    }

    private static void noBuildYet() {
        BuildGraph x = new BuildGraph();
        executed(x, 0);
        x.task(0, 0);
        executed(x, 0);
    }

    private static void executedOnesAlone() {
        BuildGraph x = new BuildGraph();
        Due.taskOf(x, 0, 0, 0);
        Due.taskOf(x, 0, 0, 8);
        x.task(0, 0);
        x.build(1);
        executed(x, 2);
        x.build(1);
        executed(x, 2);
        x.clean(0);
        x.build(1);
        executed(x, 2);
        x.build(2);
        executed(x, 3);
    }

    private static void afterEmptyStore() {
        BuildGraph x = new BuildGraph();
        Due.taskOf(x, 0, 0, 0);
        x.build(0);
        x.emptyStore();
        executed(x, 1);
        x.content(0, 1);
        x.build(0);
        x.content(0, 0);
        x.build(0);
        executed(x, 3);
    }

    private static void afterClean() {
        BuildGraph x = new BuildGraph();
        x.task(0, 0);
        x.build(0);
        x.clean(0);
        executed(x, 1);
    }

    private static void refusedBuilds() {
        BuildGraph x = Twins.ALL_TAKEN.make();
        x.content(0, 41);
        x.build(12);
        x.build(-1);
        x.build(11);
        executed(x, 480);
    }

    private static void theMost() {
        BuildGraph x = Twins.ALL_TAKEN.make();
        executed(x, 480);
        x.emptyStore();
        x.content(0, 41);
        Due.build(x, 11, 12);
        executed(x, 492);
    }
}
