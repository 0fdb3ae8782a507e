/** Promise 8: emptyStore empties the store; last records stay. */
public final class Promise08EmptyStoreTest {
    public static void main(String[] args) {
        recordsAreGone();
        allElseStays();
        anEmptyStoreMayBeEmptied();
        Due.end();
    }

    private static void recordsAreGone() {
        BuildGraph x = new BuildGraph();
        for (int number = 0; number < 12; number++) {
            Due.taskOf(x, 0, 0, 0);
            x.build(number);
        }
        x.content(0, 1);
        for (int number = 0; number < 12; number++) {
            x.build(number);
        }
        x.content(0, 0);
        Due.due("work(0) with the store", x.work(0), 0);
        x.emptyStore();
        for (int number = 0; number < 12; number++) {
            Due.due("work without the store", x.work(number), 1);
            Due.due("build without the store", x.build(number), 1);
            Due.due("its status", x.status(number), BuildGraph.EXECUTED);
        }
        x.content(0, 1);
        Due.due("build of what was stored before", x.build(3), 1);
        x.content(0, 0);
        Due.due("build of what was stored after", x.build(3), 0);
        Due.due("its status", x.status(3), BuildGraph.FROM_STORE);
    }

    private static void allElseStays() {
        BuildGraph x = new BuildGraph();
        x.content(2, 6);
        Due.taskOf(x, 0, 1, 2);
        Due.taskOf(x, 0, 2, 8);
        x.build(1);
        x.emptyStore();
        Due.due("stale", x.stale(), 0);
        Due.due("work(1)", x.work(1), 0);
        Due.due("status(1)", x.status(1), BuildGraph.EXECUTED);
        Due.due("output(1)", x.output(1), 9);
        Due.due("executed", x.executed(), 2);
        Due.due("needed(1)", x.needed(1), 2);
        Due.due("build(1)", x.build(1), 0);
        Due.due("status(1)", x.status(1), BuildGraph.UP_TO_DATE);
        Due.due("clean(1)", x.clean(1), 1);
        Due.due("content(2, 0)", x.content(2, 0), 6);
        Due.due("constant(1, 0)", x.constant(1, 0), 2);
    }

    private static void anEmptyStoreMayBeEmptied() {
        BuildGraph x = new BuildGraph();
        x.emptyStore();
        x.emptyStore();
        x.task(0, 0);
        Due.due("build", x.build(0), 1);
    }
}
