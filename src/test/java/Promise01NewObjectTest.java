/** Promise 1: a new object. */
public final class Promise01NewObjectTest {
    private static final String SENTENCE = "All contents 0, no tasks, the store is empty.";

    public static void main(String[] args) {
        Due.says(SENTENCE, "contents", Promise01NewObjectTest::contentsAreZero);
        Due.says(SENTENCE, "tasks", Promise01NewObjectTest::thereAreNoTasks);
        Due.says(SENTENCE, "the first task", Promise01NewObjectTest::theFirstTaskIsZero);
        Due.says(SENTENCE, "the store", Promise01NewObjectTest::theStoreIsEmpty);
        Due.says(SENTENCE, "builds", Promise01NewObjectTest::fortyBuildsMayBeMade);
        Due.says(SENTENCE, "two objects", Promise01NewObjectTest::objectsShareNothing);
        Due.end();
    }

    private static void contentsAreZero() {
        BuildGraph x = new BuildGraph();
        for (int source = 0; source < 8; source++) {
            Due.due("content(" + source + ", 5)", x.content(source, 5), 0);
        }
    }

    private static void thereAreNoTasks() {
        BuildGraph x = new BuildGraph();
        for (int task = 0; task < 12; task++) {
            Due.due("input", x.input(task, 0), BuildGraph.BAD_TASK);
            Due.due("constant", x.constant(task, 0), BuildGraph.BAD_TASK);
            Due.due("build", x.build(task), BuildGraph.BAD_TASK);
            Due.due("clean", x.clean(task), BuildGraph.BAD_TASK);
            Due.due("status", x.status(task), BuildGraph.BAD_TASK);
            Due.due("output", x.output(task), 0);
            Due.due("fresh", x.fresh(task), 0);
            Due.due("needed", x.needed(task), BuildGraph.BAD_TASK);
            Due.due("work", x.work(task), BuildGraph.BAD_TASK);
        }
        Due.due("executed", x.executed(), 0);
        Due.due("stale", x.stale(), 0);
    }

    private static void theFirstTaskIsZero() {
        Due.due("task(0, 0)", new BuildGraph().task(0, 0), 0);
    }

    private static void theStoreIsEmpty() {
        // The record of all zeros is the one that an array of zeros could hold.
        for (int kind = 0; kind < 4; kind++) {
            BuildGraph x = new BuildGraph();
            for (int t = 0; t < 12; t++) {
                x.task(kind, 0);
                Due.due("work(" + t + ")", x.work(t), 1);
                Due.build(x, t, 1);
                Due.due("status(" + t + ")", x.status(t), BuildGraph.EXECUTED);
            }
        }
    }

    private static void fortyBuildsMayBeMade() {
        BuildGraph x = new BuildGraph();
        x.task(0, 0);
        for (int build = 1; build <= 40; build++) {
            Due.build(x, 0, build == 1 ? 1 : 0);
        }
    }

    private static void objectsShareNothing() {
        BuildGraph x = new BuildGraph();
        x.content(0, 9);
        x.task(0, 1);
        x.build(0);
        BuildGraph y = new BuildGraph();
        Due.due("content in another object", y.content(0, 1), 0);
        Due.due("status in another object", y.status(0), BuildGraph.BAD_TASK);
        Due.due("executed in another object", y.executed(), 0);
        Due.due("task in another object", y.task(0, 1), 0);
        Due.due("build in another object", y.build(0), 1);
    }
}
