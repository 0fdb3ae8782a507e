/** Promise 12: needed tells how many tasks a build would need. */
public final class Promise12NeededTest {
    public static void main(String[] args) {
        countsThroughAChain();
        countsEachTaskOnce();
        sourcesDoNotCount();
        doesNotLookAtWhatIsBuilt();
        wrongTasks();
        Due.end();
    }

    private static void countsThroughAChain() {
        BuildGraph x = new BuildGraph();
        x.task(0, 0);
        for (int number = 1; number < 12; number++) {
            Due.taskOf(x, 0, 0, 8 + number - 1);
        }
        for (int number = 0; number < 12; number++) {
            Due.due("needed(" + number + ")", x.needed(number), number + 1);
        }
        Due.due("build(11)", x.build(11), 12);
    }

    private static void countsEachTaskOnce() {
        BuildGraph x = new BuildGraph();
        x.task(0, 0);
        Due.taskOf(x, 0, 0, 8, 8, 8);
        Due.taskOf(x, 0, 0, 8);
        x.task(0, 0);
        Due.taskOf(x, 0, 0, 9, 10, 8);
        Due.due("needed(1)", x.needed(1), 2);
        Due.due("needed(4)", x.needed(4), 4);
        Due.due("needed(3)", x.needed(3), 1);
        Due.due("needed(2)", x.needed(2), 2);
    }

    private static void sourcesDoNotCount() {
        BuildGraph x = new BuildGraph();
        Due.taskOf(x, 0, 0, 0, 1, 7);
        Due.taskOf(x, 0, 0, 0, 8, 7);
        Due.due("needed(0)", x.needed(0), 1);
        Due.due("needed(1)", x.needed(1), 2);
    }

    private static void doesNotLookAtWhatIsBuilt() {
        BuildGraph x = new BuildGraph();
        x.task(0, 0);
        Due.taskOf(x, 0, 0, 8);
        x.build(1);
        Due.due("needed(1) after a build", x.needed(1), 2);
        x.needed(0);
        Due.due("status(1) after needed(0)", x.status(1), BuildGraph.EXECUTED);
    }

    private static void wrongTasks() {
        BuildGraph x = new BuildGraph();
        x.task(0, 0);
        for (int task : Due.outside(1)) {
            Due.due("needed(" + task + ")", x.needed(task), BuildGraph.BAD_TASK);
        }
    }
}
