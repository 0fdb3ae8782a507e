/** Promise 13: work. */
public final class Promise13WorkTest {
    private static final String SENTENCE =
        "How many tasks a build of this one, now, would execute; BAD_TASK.";

    public static void main(String[] args) {
        Due.says(SENTENCE, "what build then answers", Promise13WorkTest::isWhatTheBuildThenAnswers);
        Due.says(SENTENCE, "none to twelve", Promise13WorkTest::noneToTwelve);
        Due.says(SENTENCE, "the needed tasks alone", Promise13WorkTest::countsTheNeededTasksAlone);
        Due.says(SENTENCE, "made no build", Promise13WorkTest::makesNoBuild);
        Due.says(SENTENCE, "too small", () -> Twins.tooSmall("work", BuildGraph::work,
            BuildGraph.BAD_TASK));
        Due.says(SENTENCE, "too large", () -> Twins.tooLargeTask("work", BuildGraph::work,
            BuildGraph.BAD_TASK));
        Due.says(SENTENCE, "none yet", () -> Twins.noTaskYet("work", BuildGraph::work,
            BuildGraph.BAD_TASK));
        Due.end();
    }

    private static void isWhatTheBuildThenAnswers() {
        BuildGraph x = new BuildGraph();
        Due.taskOf(x, 3, 0, 0);
        Due.taskOf(x, 0, 1, 8, 1);
        Due.taskOf(x, 1, 2, 9, 8);
        both(x, 2, 3);
        both(x, 2, 0);
        x.content(0, 16);
        both(x, 2, 1);
        x.content(0, 1);
        both(x, 2, 3);
        x.content(0, 0);
        both(x, 2, 0);
        x.content(1, 4);
        both(x, 1, 1);
        both(x, 2, 1);
        x.emptyStore();
        x.content(1, 0);
        both(x, 0, 0);
        both(x, 2, 2);
    }

    private static void both(BuildGraph x, int task, int executed) {
        Due.due("work(" + task + ")", x.work(task), executed);
        Due.build(x, task, executed);
    }

    private static void noneToTwelve() {
        BuildGraph x = Due.chainOfTwelve();
        for (int number = 0; number < 12; number++) {
            Due.due("work(" + number + ")", x.work(number), number + 1);
        }
        for (int number = 0; number < 12; number++) {
            x.build(number);
            Due.due("work(" + number + ") after its build", x.work(number), 0);
            Due.due("work(11) after build(" + number + ")", x.work(11), 11 - number);
        }
    }

    private static void countsTheNeededTasksAlone() {
        BuildGraph x = new BuildGraph();
        x.task(0, 0);
        x.task(0, 0);
        Due.taskOf(x, 0, 0, 9);
        x.task(0, 0);
        Due.due("work(0)", x.work(0), 1);
        Due.due("work(2)", x.work(2), 2);
    }

    private static void makesNoBuild() {
        BuildGraph x = new BuildGraph();
        x.task(0, 9);
        for (int i = 0; i < 45; i++) {
            Due.due("work(0)", x.work(0), 1);
        }
        Due.due("executed after work", x.executed(), 0);
        Due.due("clean after work", x.clean(0), 0);
        Due.build(x, 0, 1);
    }
}
