/** Promise 15: stale counts the tasks whose last record is not that of now. */
public final class Promise15StaleTest {
    public static void main(String[] args) {
        countsTasksWithoutALastRecord();
        countsTasksWithAnotherRecord();
        countsByRecordNotByOutput();
        theStoreDoesNotMatter();
        Due.end();
    }

    private static void countsTasksWithoutALastRecord() {
        BuildGraph x = new BuildGraph();
        Due.due("stale without tasks", x.stale(), 0);
        for (int number = 0; number < 12; number++) {
            x.task(0, 0);
            Due.due("stale", x.stale(), number + 1);
        }
        for (int number = 0; number < 12; number++) {
            x.build(number);
            Due.due("stale", x.stale(), 11 - number);
        }
        x.clean(5);
        Due.due("stale after clean", x.stale(), 1);
    }

    private static void countsTasksWithAnotherRecord() {
        BuildGraph x = new BuildGraph();
        Due.taskOf(x, 0, 0, 0);
        Due.taskOf(x, 0, 0, 1);
        Due.taskOf(x, 0, 0, 8, 9);
        x.build(2);
        Due.due("stale after a build", x.stale(), 0);
        x.content(2, 1);
        Due.due("stale after an unused source", x.stale(), 0);
        x.content(1, 1);
        Due.due("stale after a source", x.stale(), 2);
        x.constant(2, 1);
        Due.due("stale after a constant", x.stale(), 2);
        x.input(0, 7);
        Due.due("stale after an input of value 0", x.stale(), 3);
        x.build(0);
        Due.due("stale after build(0)", x.stale(), 2);
        x.build(2);
        Due.due("stale after build(2)", x.stale(), 0);
    }

    private static void countsByRecordNotByOutput() {
        BuildGraph x = new BuildGraph();
        x.content(0, 1);
        Due.taskOf(x, 0, 0, 0, 1);
        Due.taskOf(x, 0, 0, 8);
        x.build(1);
        x.content(0, 0);
        x.content(1, 1);
        Due.due("stale with the same output", x.stale(), 1);
    }

    private static void theStoreDoesNotMatter() {
        BuildGraph x = new BuildGraph();
        Due.taskOf(x, 0, 0, 0);
        x.build(0);
        x.content(0, 1);
        x.build(0);
        x.content(0, 0);
        Due.due("stale with the record in the store", x.stale(), 1);
        x.content(0, 1);
        x.emptyStore();
        Due.due("stale with an empty store", x.stale(), 0);
        Due.due("stale again", x.stale(), 0);
    }
}
