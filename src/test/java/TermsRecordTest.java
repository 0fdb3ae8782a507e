/** The terms: the record, the last record and the store. */
public final class TermsRecordTest {
    private static final String RECORD = "THE RECORD of a task is what it was worked out from: its "
        + "kind, constant, and the values of its inputs in order (so how many there are matters too).";
    private static final String STORE = "THE STORE keeps, for each task, every record with which the "
        + "task was ever EXECUTED since the store was last emptied.";
    private static final String LAST = "A task also remembers its LAST record: that of the last build "
        + "in which it was needed, if any.";
    private static final int NOT_NEEDED = BuildGraph.NOT_NEEDED;
    private static final int UP_TO_DATE = BuildGraph.UP_TO_DATE;
    private static final int FROM_STORE = BuildGraph.FROM_STORE;
    private static final int EXECUTED = BuildGraph.EXECUTED;

    public static void main(String[] args) {
        Due.says(RECORD, "how many, from none to three", TermsRecordTest::howManyMatters);
        Due.says(RECORD, "how many, in the store", TermsRecordTest::howManyMattersInTheStore);
        Due.says(RECORD, "in order", TermsRecordTest::orderMatters);
        Due.says(RECORD, "each of three values", TermsRecordTest::eachValueMatters);
        Due.says(RECORD, "the constant, where the output is the same", TermsRecordTest::constantMatters);
        Due.says(RECORD, "values, not which inputs", TermsRecordTest::valuesNotInputs);
        Due.says(RECORD, "all 32 bits", TermsRecordTest::everyBitMatters);
        Due.says(STORE, "for each task", TermsRecordTest::eachTasksOwn);
        Due.says(STORE, "every record, none of them lost", TermsRecordTest::everyRecord);
        Due.says(STORE, "all places taken", TermsRecordTest::allPlacesTaken);
        Due.says(STORE, "executed ones alone", TermsRecordTest::executedOnesAlone);
        Due.says(STORE, "executed again after emptying", TermsRecordTest::executedAgain);
        Due.says(STORE, "empty", TermsRecordTest::emptyStore);
        Due.says(LAST, "none", TermsRecordTest::noLastRecord);
        Due.says(LAST, "not the one before", TermsRecordTest::notTheOneBefore);
        Due.says(LAST, "builds without it between", TermsRecordTest::buildsWithoutItBetween);
        Due.says(LAST, "needed by another task's build", TermsRecordTest::neededByAnother);
        Due.end();
    }

    private static void howManyMatters() {
        for (int kind = 0; kind < 4; kind++) {
            BuildGraph x = new BuildGraph();
            x.task(kind, 0);
            for (int count = 0; count <= 3; count++) {
                Due.due("build with " + count + " values of 0", x.build(0), 1);
                Due.due("build again", x.build(0), 0);
                Due.statuses(x, UP_TO_DATE);
                x.input(0, count);
            }
        }
    }

    private static void howManyMattersInTheStore() {
        BuildGraph x = new BuildGraph();
        x.task(0, 0);
        for (int count = 0; count <= 3; count++) {
            x.clean(0);
            Due.due("work with " + count + " values of 0", x.work(0), 1);
            Due.build(x, 0, 1);
            Due.statuses(x, EXECUTED);
            x.input(0, count);
        }
    }

    private static void orderMatters() {
        BuildGraph x = new BuildGraph();
        Due.taskOf(x, 0, 0, 0, 1, 2);
        int[][] orders = {{1, 2, 3}, {2, 1, 3}, {3, 2, 1}, {1, 3, 2}};
        for (int[] order : orders) {
            contents(x, order);
            Due.build(x, 0, 1);
            Due.outputs(x, 6);
        }
        contents(x, orders[0]);
        Due.build(x, 0, 0);
        Due.statuses(x, FROM_STORE);
    }

    private static void contents(BuildGraph x, int... contents) {
        for (int source = 0; source < contents.length; source++) {
            x.content(source, contents[source]);
        }
    }

    private static void eachValueMatters() {
        // The greatest stays 9, whatever the values are.
        BuildGraph x = new BuildGraph();
        Due.taskOf(x, 2, 9, 0, 1, 2);
        Due.build(x, 0, 1);
        for (int source = 0; source < 3; source++) {
            x.content(source, 1);
            Due.due("stale with another value " + source, x.stale(), 1);
            Due.build(x, 0, 1);
            Due.outputs(x, 9);
        }
    }

    private static void constantMatters() {
        BuildGraph x = new BuildGraph();
        Due.taskOf(x, 3, 1, 0);
        Due.taskOf(x, 2, 1, 1);
        x.content(1, 50);
        Due.build(x, 0, 1);
        Due.build(x, 1, 1);
        x.constant(0, 2);
        x.constant(1, 2);
        Due.due("stale with other constants", x.stale(), 2);
        Due.build(x, 0, 1);
        Due.build(x, 1, 1);
        Due.outputs(x, 0, 50);
    }

    private static void valuesNotInputs() {
        BuildGraph x = new BuildGraph();
        x.content(0, 7);
        Due.taskOf(x, 0, 0, 0);
        Due.taskOf(x, 0, 3, 8);
        Due.build(x, 1, 2);
        // Task 0 is worked out from something else, with the same outcome.
        x.content(0, 0);
        x.constant(0, 7);
        Due.build(x, 1, 1);
        Due.statuses(x, EXECUTED, UP_TO_DATE);
    }

    private static void everyBitMatters() {
        BuildGraph x = new BuildGraph();
        Due.taskOf(x, 3, 0, 0);
        Due.build(x, 0, 1);
        for (int bit = 0; bit < 32; bit++) {
            x.content(0, 1 << bit);
            Due.due("stale with bit " + bit, x.stale(), 1);
            Due.build(x, 0, 1);
        }
    }

    private static void eachTasksOwn() {
        BuildGraph x = new BuildGraph();
        for (int t = 0; t < 12; t++) {
            Due.taskOf(x, 0, 1, 0);
        }
        for (int t = 0; t < 12; t++) {
            Due.due("build(" + t + "), the record of those before", x.build(t), 1);
        }
        x.content(0, 5);
        Due.build(x, 4, 1);
        x.clean(4);
        Due.due("work(4)", x.work(4), 0);
        Due.due("work(3)", x.work(3), 1);
        Due.due("work(5)", x.work(5), 1);
    }

    private static void everyRecord() {
        BuildGraph x = new BuildGraph();
        Due.taskOf(x, 1, 3, 0, 1, 7);
        for (int content = 1; content <= 20; content++) {
            x.content(7, content);
            Due.build(x, 0, 1);
        }
        for (int content = 1; content <= 20; content++) {
            x.content(7, content);
            Due.build(x, 0, 0);
            Due.statuses(x, FROM_STORE);
        }
    }

    private static void allPlacesTaken() {
        BuildGraph x = Twins.ALL_TAKEN.make();
        // Without last records, only the store can spare the work.
        for (int t = 0; t < 12; t++) {
            x.clean(t);
        }
        for (int content = 1; content <= 40; content++) {
            x.content(0, content);
            Due.due("work(11) of content " + content, x.work(11), 0);
        }
        x.content(0, 0);
        Due.due("work(11) of content 0", x.work(11), 12);
        x.content(0, 41);
        Due.due("work(11) of content 41", x.work(11), 12);
    }

    private static void executedOnesAlone() {
        BuildGraph x = new BuildGraph();
        x.task(0, 1);
        x.build(0);
        x.emptyStore();
        Due.build(x, 0, 0);
        Due.statuses(x, UP_TO_DATE);
        x.clean(0);
        Due.build(x, 0, 1);
        Due.statuses(x, EXECUTED);
    }

    private static void executedAgain() {
        BuildGraph x = new BuildGraph();
        x.task(0, 1);
        x.build(0);
        x.emptyStore();
        x.clean(0);
        Due.build(x, 0, 1);
        x.clean(0);
        Due.build(x, 0, 0);
        Due.statuses(x, FROM_STORE);
    }

    private static void emptyStore() {
        BuildGraph x = new BuildGraph();
        Due.taskOf(x, 0, 0, 0);
        Due.build(x, 0, 1);
        Due.statuses(x, EXECUTED);
        x.content(0, 1);
        Due.build(x, 0, 1);
        x.emptyStore();
        x.content(0, 0);
        Due.build(x, 0, 1);
        Due.statuses(x, EXECUTED);
    }

    private static void noLastRecord() {
        BuildGraph x = new BuildGraph();
        x.task(0, 0);
        x.task(0, 0);
        Due.build(x, 1, 1);
        Due.due("clean of a task never needed", x.clean(0), 0);
        Due.due("stale", x.stale(), 1);
        Due.build(x, 0, 1);
        Due.statuses(x, EXECUTED, NOT_NEEDED);
    }

    private static void notTheOneBefore() {
        BuildGraph x = new BuildGraph();
        Due.taskOf(x, 0, 0, 0);
        x.build(0);
        x.content(0, 1);
        x.build(0);
        x.content(0, 0);
        Due.due("stale with the record before", x.stale(), 1);
        Due.build(x, 0, 0);
        Due.statuses(x, FROM_STORE);
    }

    private static void buildsWithoutItBetween() {
        BuildGraph x = new BuildGraph();
        Due.taskOf(x, 0, 0, 0);
        Due.taskOf(x, 0, 0, 0);
        x.build(0);
        x.content(0, 1);
        x.build(1);
        x.content(0, 2);
        x.build(1);
        x.content(0, 0);
        Due.build(x, 0, 0);
        Due.statuses(x, UP_TO_DATE, NOT_NEEDED);
    }

    private static void neededByAnother() {
        BuildGraph x = new BuildGraph();
        Due.taskOf(x, 0, 0, 0);
        Due.taskOf(x, 0, 0, 8);
        x.build(1);
        Due.build(x, 0, 0);
        Due.statuses(x, UP_TO_DATE, NOT_NEEDED);
    }
}
