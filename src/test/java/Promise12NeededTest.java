/** Promise 12: needed. */
public final class Promise12NeededTest {
    private static final String SENTENCE = "How many tasks a build of this one would need; BAD_TASK.";

    public static void main(String[] args) {
        Due.says(SENTENCE, "one to twelve", Promise12NeededTest::countsThroughAChain);
        Due.says(SENTENCE, "each task once", Promise12NeededTest::countsEachTaskOnce);
        Due.says(SENTENCE, "sources do not count", Promise12NeededTest::sourcesDoNotCount);
        Due.says(SENTENCE, "up to date or not", Promise12NeededTest::whatIsBuiltDoesNotMatter);
        Due.says(SENTENCE, "forty builds made", Promise12NeededTest::whereBuildIsFull);
        Due.says(SENTENCE, "too small", () -> Twins.tooSmall("needed", BuildGraph::needed,
            BuildGraph.BAD_TASK));
        Due.says(SENTENCE, "too large", () -> Twins.tooLargeTask("needed", BuildGraph::needed,
            BuildGraph.BAD_TASK));
        Due.says(SENTENCE, "none yet", () -> Twins.noTaskYet("needed", BuildGraph::needed,
            BuildGraph.BAD_TASK));
        Due.end();
    }

    private static void countsThroughAChain() {
        BuildGraph x = Due.chainOfTwelve();
        for (int number = 0; number < 12; number++) {
            Due.due("needed(" + number + ")", x.needed(number), number + 1);
        }
        for (int number = 11; number >= 0; number--) {
            Due.due("needed(" + number + ")", x.needed(number), number + 1);
        }
    }

    private static void countsEachTaskOnce() {
        BuildGraph x = new BuildGraph();
        x.task(0, 0);
        Due.taskOf(x, 0, 0, 8, 8, 8);
        Due.taskOf(x, 0, 0, 8);
        x.task(0, 0);
        Due.taskOf(x, 0, 0, 9, 10, 8);
        Due.due("needed(1)", x.needed(1), 2);
        Due.due("needed(4)", x.needed(4), 4);
        Due.due("needed(3)", x.needed(3), 1);
        Due.due("needed(2)", x.needed(2), 2);
    }

    private static void sourcesDoNotCount() {
        BuildGraph x = new BuildGraph();
        Due.taskOf(x, 0, 0, 0, 1, 7);
        Due.taskOf(x, 0, 0, 0, 8, 7);
        Due.due("needed(0)", x.needed(0), 1);
        Due.due("needed(1)", x.needed(1), 2);
    }

    private static void whatIsBuiltDoesNotMatter() {
        BuildGraph x = new BuildGraph();
        x.task(0, 0);
        Due.taskOf(x, 0, 0, 8);
        Due.due("needed(1) before a build", x.needed(1), 2);
        x.build(1);
        Due.due("needed(1) after a build", x.needed(1), 2);
        x.build(0);
        Due.due("needed(1) after a build of task 0", x.needed(1), 2);
    }

    private static void whereBuildIsFull() {
        BuildGraph x = Twins.ALL_TAKEN.make();
        Due.build(x, 11, BuildGraph.FULL);
        Due.due("needed(11)", x.needed(11), 12);
        Due.due("needed(0)", x.needed(0), 1);
    }
}
