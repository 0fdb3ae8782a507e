/** Promise 8: emptyStore. */
public final class Promise08EmptyStoreTest {
    private static final String EMPTIES = "Empties the store (last records stay).";

    public static void main(String[] args) {
        Due.says(EMPTIES, "of every task", Promise08EmptyStoreTest::ofEveryTask);
        Due.says(EMPTIES, "a full store", Promise08EmptyStoreTest::aFullStore);
        Due.says(EMPTIES, "an empty store", Promise08EmptyStoreTest::anEmptyStore);
        Due.says(EMPTIES, "filled again", Promise08EmptyStoreTest::filledAgain);
        Due.says(EMPTIES, "last records stay", Promise08EmptyStoreTest::lastRecordsStay);
        Due.says(EMPTIES, "all else stays", Promise08EmptyStoreTest::allElseStays);
        Due.end();
    }

    private static void ofEveryTask() {
        BuildGraph x = new BuildGraph();
        for (int number = 0; number < 12; number++) {
            Due.taskOf(x, 0, 0, 0);
            x.build(number);
        }
        x.content(0, 1);
        for (int number = 0; number < 12; number++) {
            x.build(number);
        }
        x.content(0, 0);
        for (int number = 0; number < 12; number++) {
            Due.due("work(" + number + ") with the store", x.work(number), 0);
        }
        x.emptyStore();
        for (int number = 0; number < 12; number++) {
            Due.due("work(" + number + ") without it", x.work(number), 1);
            Due.build(x, number, 1);
            Due.due("status(" + number + ")", x.status(number), BuildGraph.EXECUTED);
        }
    }

    private static void aFullStore() {
        BuildGraph x = Twins.ALL_TAKEN.make();
        x.emptyStore();
        for (int t = 0; t < 12; t++) {
            x.clean(t);
        }
        for (int content = 1; content <= 40; content++) {
            x.content(0, content);
            Due.due("work(11) of content " + content, x.work(11), 12);
        }
    }

    private static void anEmptyStore() {
        BuildGraph x = new BuildGraph();
        x.emptyStore();
        x.emptyStore();
        x.task(0, 0);
        x.emptyStore();
        Due.build(x, 0, 1);
        Due.build(x, 0, 0);
    }

    private static void filledAgain() {
        BuildGraph x = new BuildGraph();
        Due.taskOf(x, 0, 0, 0);
        x.build(0);
        x.content(0, 1);
        x.build(0);
        x.emptyStore();
        x.content(0, 2);
        Due.build(x, 0, 1);
        x.content(0, 0);
        Due.build(x, 0, 1);
        x.content(0, 1);
        Due.due("work of what was kept before alone", x.work(0), 1);
        x.content(0, 2);
        Due.build(x, 0, 0);
        Due.statuses(x, BuildGraph.FROM_STORE);
    }

    private static void lastRecordsStay() {
        BuildGraph x = Due.chainOfTwelve();
        x.build(11);
        x.emptyStore();
        Due.due("stale()", x.stale(), 0);
        Due.due("work(11)", x.work(11), 0);
        Due.build(x, 11, 0);
        for (int t = 0; t < 12; t++) {
            Due.due("status(" + t + ")", x.status(t), BuildGraph.UP_TO_DATE);
            Due.due("clean(" + t + ")", x.clean(t), 1);
        }
    }

    private static void allElseStays() {
        BuildGraph x = new BuildGraph();
        x.content(2, 6);
        Due.taskOf(x, 0, 1, 2);
        Due.taskOf(x, 0, 2, 8);
        x.task(0, 3);
        x.build(1);
        x.emptyStore();
        Due.statuses(x, BuildGraph.EXECUTED, BuildGraph.EXECUTED, BuildGraph.NOT_NEEDED);
        Due.outputs(x, 7, 9, 0);
        Due.due("executed", x.executed(), 2);
        Due.due("needed(1)", x.needed(1), 2);
        Due.due("content(2, 0)", x.content(2, 0), 6);
        Due.due("constant(1, 0)", x.constant(1, 0), 2);
        Due.due("input(1, 0)", x.input(1, 0), 2);
        Due.due("task(0, 0)", x.task(0, 0), 3);
    }
}
