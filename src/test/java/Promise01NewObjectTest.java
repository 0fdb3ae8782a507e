/** Promise 1: all contents 0, no tasks, the store is empty. */
public final class Promise01NewObjectTest {
    public static void main(String[] args) {
        contentsAreZero();
        thereAreNoTasks();
        theStoreIsEmpty();
        objectsShareNothing();
        Due.end();
    }

    private static void contentsAreZero() {
        BuildGraph x = new BuildGraph();
        for (int source = 0; source < 8; source++) {
            Due.due("content(" + source + ", 5)", x.content(source, 5), 0);
        }
    }

    private static void thereAreNoTasks() {
        BuildGraph x = new BuildGraph();
        for (int task = 0; task < 12; task++) {
            Due.due("input", x.input(task, 0), BuildGraph.BAD_TASK);
            Due.due("constant", x.constant(task, 0), BuildGraph.BAD_TASK);
            Due.due("build", x.build(task), BuildGraph.BAD_TASK);
            Due.due("clean", x.clean(task), BuildGraph.BAD_TASK);
            Due.due("status", x.status(task), BuildGraph.BAD_TASK);
            Due.due("output", x.output(task), 0);
            Due.due("fresh", x.fresh(task), 0);
            Due.due("needed", x.needed(task), BuildGraph.BAD_TASK);
            Due.due("work", x.work(task), BuildGraph.BAD_TASK);
        }
        Due.due("executed", x.executed(), 0);
        Due.due("stale", x.stale(), 0);
        Due.due("the first task's number", x.task(0, 0), 0);
    }

    private static void theStoreIsEmpty() {
        // The record of all zeros is the one that an array of zeros could hold.
        for (int kind = 0; kind < 4; kind++) {
            BuildGraph x = new BuildGraph();
            x.task(kind, 0);
            Due.due("build of a task of zeros", x.build(0), 1);
            Due.due("its status", x.status(0), BuildGraph.EXECUTED);
        }
    }

    private static void objectsShareNothing() {
        BuildGraph x = new BuildGraph();
        x.content(0, 9);
        x.task(0, 1);
        x.build(0);
        BuildGraph y = new BuildGraph();
        Due.due("content in another object", y.content(0, 1), 0);
        Due.due("status in another object", y.status(0), BuildGraph.BAD_TASK);
        Due.due("executed in another object", y.executed(), 0);
        Due.due("task in another object", y.task(0, 1), 0);
        Due.due("build in another object", y.build(0), 1);
    }
}
