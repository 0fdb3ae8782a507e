/** Promise 16: the order of the tests, and what holds at the limits. */
public final class Promise16OrderAndLimitsTest {
    public static void main(String[] args) {
        inputTestsTheTaskFirst();
        inputTestsTheSourceBeforeFull();
        buildTestsTheTaskBeforeFull();
        workDoesNotLookAtTheBuilds();
        fullLeavesStatusAndOutput();
        staleWorksOutInputsAnew();
        Due.end();
    }

    private static void inputTestsTheTaskFirst() {
        BuildGraph x = new BuildGraph();
        Due.taskOf(x, 0, 0, 0, 0, 0);
        for (int task : Due.outside(1)) {
            for (int input : Due.outside(8)) {
                Due.due("input of a wrong task and input", x.input(task, input), BuildGraph.BAD_TASK);
            }
        }
    }

    private static void inputTestsTheSourceBeforeFull() {
        BuildGraph x = new BuildGraph();
        Due.taskOf(x, 0, 0, 0, 0, 0);
        for (int input : Due.outside(8)) {
            Due.due("a wrong fourth input", x.input(0, input), BuildGraph.BAD_SOURCE);
        }
        Due.due("a right fourth input", x.input(0, 7), BuildGraph.FULL);
    }

    private static BuildGraph builtForty() {
        BuildGraph x = new BuildGraph();
        Due.taskOf(x, 0, 0, 0);
        Due.taskOf(x, 0, 1, 8);
        x.task(0, 2);
        x.build(2);
        for (int build = 2; build <= 40; build++) {
            Due.due("build " + build, x.build(1), build == 2 ? 2 : 0);
        }
        return x;
    }

    private static void buildTestsTheTaskBeforeFull() {
        BuildGraph x = builtForty();
        for (int task : Due.outside(3)) {
            Due.due("build(" + task + ")", x.build(task), BuildGraph.BAD_TASK);
        }
        Due.due("build(0)", x.build(0), BuildGraph.FULL);
    }

    private static void workDoesNotLookAtTheBuilds() {
        BuildGraph x = builtForty();
        Due.due("work(1) with nothing to do", x.work(1), 0);
        x.content(0, 5);
        Due.due("work(1)", x.work(1), 2);
        Due.due("build(1)", x.build(1), BuildGraph.FULL);
        Due.due("work(1) after FULL", x.work(1), 2);
        x.content(0, 0);
        x.clean(0);
        Due.due("work(1) from the store", x.work(1), 0);
    }

    private static void fullLeavesStatusAndOutput() {
        BuildGraph x = builtForty();
        x.content(0, 5);
        x.clean(2);
        Due.due("build(2)", x.build(2), BuildGraph.FULL);
        Due.due("build(1)", x.build(1), BuildGraph.FULL);
        int[] statuses = {BuildGraph.UP_TO_DATE, BuildGraph.UP_TO_DATE, BuildGraph.NOT_NEEDED};
        int[] outputs = {0, 1, 2};
        for (int t = 0; t < 3; t++) {
            Due.due("status(" + t + ") after FULL", x.status(t), statuses[t]);
            Due.due("output(" + t + ") after FULL", x.output(t), outputs[t]);
        }
        Due.due("stale after FULL", x.stale(), 3);
        Due.due("clean(2) after FULL", x.clean(2), 0);
        Due.due("executed after FULL", x.executed(), 3);
    }

    private static void staleWorksOutInputsAnew() {
        BuildGraph x = new BuildGraph();
        Due.taskOf(x, 3, 0, 0);
        Due.taskOf(x, 0, 0, 8);
        Due.taskOf(x, 0, 0, 9);
        x.build(2);
        x.content(0, 16);
        Due.due("stale with the same fresh output", x.stale(), 1);
        x.content(0, 1);
        Due.due("stale with another fresh output", x.stale(), 3);
        x.build(0);
        Due.due("stale after build(0)", x.stale(), 2);
        x.content(0, 0);
        Due.due("stale with the first content", x.stale(), 1);
    }
}
