/** Promise 16: order and limits. */
public final class Promise16OrderAndLimitsTest {
    private static final String INPUT =
        "input: BAD_TASK is tested first, then BAD_SOURCE, then FULL.";
    private static final String BUILD = "build: BAD_TASK is tested before FULL.";
    private static final String WORK = "work does not look at how many builds have been made: it "
        + "answers how many tasks would be executed if this build were made, also where build "
        + "answers FULL.";
    private static final String FULL_BUILD =
        "A build that answers FULL leaves every status and output as they were.";
    private static final String STALE = "stale: a task's record as of now is that with the outputs "
        + "that the tasks among its inputs would have if they were worked out now (as fresh answers).";

    public static void main(String[] args) {
        Due.says(INPUT, "the task before the input", Promise16OrderAndLimitsTest::taskBeforeSource);
        Due.says(INPUT, "the task before FULL", Promise16OrderAndLimitsTest::taskBeforeFull);
        Due.says(INPUT, "the input before FULL", Promise16OrderAndLimitsTest::sourceBeforeFull);
        Due.says(BUILD, "forty builds made", Promise16OrderAndLimitsTest::buildTaskBeforeFull);
        Due.says(WORK, "nothing to do", Promise16OrderAndLimitsTest::workWithNothingToDo);
        Due.says(WORK, "all to do", Promise16OrderAndLimitsTest::workWithAllToDo);
        Due.says(WORK, "from the store", Promise16OrderAndLimitsTest::workFromTheStore);
        Due.says(FULL_BUILD, "statuses", Promise16OrderAndLimitsTest::fullLeavesStatuses);
        Due.says(FULL_BUILD, "outputs", Promise16OrderAndLimitsTest::fullLeavesOutputs);
        Due.says(FULL_BUILD, "last records", Promise16OrderAndLimitsTest::fullLeavesLastRecords);
        Due.says(STALE, "the same fresh output", Promise16OrderAndLimitsTest::sameFreshOutput);
        Due.says(STALE, "another fresh output", Promise16OrderAndLimitsTest::anotherFreshOutput);
        Due.says(STALE, "inputs never built", Promise16OrderAndLimitsTest::inputsNeverBuilt);
        Due.end();
    }

    private static void taskBeforeSource() {
        for (int input : new int[] {-1, 8 + 12, Integer.MIN_VALUE, Integer.MAX_VALUE}) {
            Twins.tooSmall("input of a wrong input", (x, t) -> x.input(t, input), BuildGraph.BAD_TASK);
            Twins.tooLargeTask("input of a wrong input", (x, t) -> x.input(t, input),
                BuildGraph.BAD_TASK);
            Twins.noTaskYet("input of a wrong input", (x, t) -> x.input(t, input), BuildGraph.BAD_TASK);
        }
    }

    private static void taskBeforeFull() {
        BuildGraph x = Twins.ALL_TAKEN.make();
        Due.due("input(12, 0)", x.input(12, 0), BuildGraph.BAD_TASK);
        Due.due("input(-1, 0)", x.input(-1, 0), BuildGraph.BAD_TASK);
        Due.due("input(11, 0)", x.input(11, 0), BuildGraph.FULL);
    }

    private static void sourceBeforeFull() {
        BuildGraph x = Twins.ALL_TAKEN.make();
        for (int t = 0; t < 12; t++) {
            Due.due("a fourth input below 0", x.input(t, -1), BuildGraph.BAD_SOURCE);
            Due.due("a fourth input, itself", x.input(t, 8 + t), BuildGraph.BAD_SOURCE);
            Due.due("a fourth input, too large", x.input(t, Integer.MAX_VALUE), BuildGraph.BAD_SOURCE);
            Due.due("a right fourth input", x.input(t, 7 + t), BuildGraph.FULL);
        }
    }

    private static void buildTaskBeforeFull() {
        for (int task : Due.tooSmall()) {
            Due.build(Twins.ALL_TAKEN.make(), task, BuildGraph.BAD_TASK);
        }
        BuildGraph x = builtForty();
        for (int task : Due.tooLarge(3)) {
            Due.build(x, task, BuildGraph.BAD_TASK);
        }
        Due.build(x, 2, BuildGraph.FULL);
    }

    /** The last builds were of task 1, which needs task 0; task 2 was needed in the first alone. */
    private static BuildGraph builtForty() {
        BuildGraph x = new BuildGraph();
        Due.taskOf(x, 0, 0, 0);
        Due.taskOf(x, 0, 1, 8);
        x.task(0, 2);
        Due.build(x, 2, 1);
        for (int build = 2; build <= 40; build++) {
            Due.build(x, 1, build == 2 ? 2 : 0);
        }
        return x;
    }

    private static void workWithNothingToDo() {
        BuildGraph x = builtForty();
        Due.due("work(1)", x.work(1), 0);
        Due.build(x, 1, BuildGraph.FULL);
        Due.due("work(1) after FULL", x.work(1), 0);
    }

    private static void workWithAllToDo() {
        BuildGraph x = Twins.ALL_TAKEN.make();
        x.content(0, 41);
        for (int t = 0; t < 12; t++) {
            Due.due("work(" + t + ")", x.work(t), t + 1);
            Due.build(x, t, BuildGraph.FULL);
            Due.due("work(" + t + ") after FULL", x.work(t), t + 1);
        }
    }

    private static void workFromTheStore() {
        BuildGraph x = Twins.ALL_TAKEN.make();
        x.content(0, 1);
        Due.build(x, 11, BuildGraph.FULL);
        Due.due("work(11) of the first records", x.work(11), 0);
        x.emptyStore();
        Due.due("work(11) without the store", x.work(11), 12);
    }

    private static void fullLeavesStatuses() {
        BuildGraph x = builtForty();
        x.content(0, 5);
        x.clean(2);
        for (int task = 0; task < 3; task++) {
            Due.build(x, task, BuildGraph.FULL);
            Due.statuses(x, BuildGraph.UP_TO_DATE, BuildGraph.UP_TO_DATE, BuildGraph.NOT_NEEDED);
        }
    }

    private static void fullLeavesOutputs() {
        BuildGraph x = builtForty();
        x.content(0, 5);
        x.constant(2, 9);
        for (int task = 0; task < 3; task++) {
            Due.build(x, task, BuildGraph.FULL);
            Due.outputs(x, 0, 1, 2);
        }
    }

    private static void fullLeavesLastRecords() {
        BuildGraph x = builtForty();
        x.content(0, 5);
        x.clean(2);
        Due.build(x, 2, BuildGraph.FULL);
        Due.build(x, 1, BuildGraph.FULL);
        Due.due("stale after FULL", x.stale(), 3);
        Due.due("clean(2) after FULL", x.clean(2), 0);
        Due.due("executed after FULL", x.executed(), 3);
        x.content(0, 0);
        Due.due("stale with the old content", x.stale(), 1);
    }

    /** Task 0 gives the lowest four bits of source 0; tasks 1 and 2 follow it. */
    private static BuildGraph lowBits() {
        BuildGraph x = new BuildGraph();
        Due.taskOf(x, 3, 0, 0);
        Due.taskOf(x, 0, 0, 8);
        Due.taskOf(x, 0, 0, 9);
        Due.build(x, 2, 3);
        return x;
    }

    private static void sameFreshOutput() {
        BuildGraph x = lowBits();
        x.content(0, 16);
        Due.due("stale()", x.stale(), 1);
    }

    private static void anotherFreshOutput() {
        BuildGraph x = lowBits();
        x.content(0, 1);
        Due.due("stale()", x.stale(), 3);
        x.build(0);
        Due.due("stale() after build(0)", x.stale(), 2);
        // Task 0's output is 1 since that build, but would be 0 now, as it was for task 1.
        x.content(0, 0);
        Due.due("stale() with the first content", x.stale(), 1);
    }

    private static void inputsNeverBuilt() {
        BuildGraph x = new BuildGraph();
        x.task(0, 0);
        x.task(0, 7);
        Due.build(x, 0, 1);
        x.task(0, 0);
        x.input(2, 9);
        Due.due("stale() with inputs never built", x.stale(), 2);
        Due.build(x, 2, 2);
        Due.due("stale() after the build", x.stale(), 0);
        x.clean(1);
        Due.due("stale() with a forgotten input", x.stale(), 1);
    }
}
