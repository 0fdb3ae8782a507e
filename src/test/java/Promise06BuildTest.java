/** Promise 6: build. What the terms say of a build stands in TermsBuildTest. */
public final class Promise06BuildTest {
    private static final String MAKES = "Makes a build of a task.";
    private static final String REFUSED = "BAD_TASK, nothing changes.";
    private static final String FORTY = "Forty builds or more have been made since the store was "
        + "last emptied: FULL, nothing changes.";
    private static final String COUNT = "Else answers how many tasks were EXECUTED.";

    public static void main(String[] args) {
        Due.says(MAKES, "the first and the last task", Promise06BuildTest::firstAndLast);
        Due.says(REFUSED, "too small", () -> Twins.tooSmall("build", BuildGraph::build,
            BuildGraph.BAD_TASK));
        Due.says(REFUSED, "too large", () -> Twins.tooLargeTask("build", BuildGraph::build,
            BuildGraph.BAD_TASK));
        Due.says(REFUSED, "none yet", () -> Twins.noTaskYet("build", BuildGraph::build,
            BuildGraph.BAD_TASK));
        Due.says(FORTY, "the fortieth and the next", Promise06BuildTest::fortyBuilds);
        Due.says(FORTY, "of a task never built", Promise06BuildTest::fullForEveryTask);
        Due.says(FORTY, "nothing changes", Promise06BuildTest::fullChangesNothing);
        Due.says(FORTY, "a build that executes nothing", Promise06BuildTest::idleBuildsCount);
        Due.says(FORTY, "a wrong build", Promise06BuildTest::wrongBuildsDoNotCount);
        Due.says(FORTY, "work", Promise06BuildTest::workDoesNotCount);
        Due.says(FORTY, "emptied when full", Promise06BuildTest::emptiedWhenFull);
        Due.says(FORTY, "emptied before", Promise06BuildTest::emptiedBefore);
        Due.says(FORTY, "a clean is no emptying", Promise06BuildTest::cleanIsNoEmptying);
        Due.says(COUNT, "none to twelve", Promise06BuildTest::answersNoneToTwelve);
        Due.says(COUNT, "neither up to date nor from the store", Promise06BuildTest::countsExecutedAlone);
        Due.end();
    }

    private static void firstAndLast() {
        BuildGraph x = new BuildGraph();
        for (int number = 0; number < 12; number++) {
            x.task(0, 100 + number);
        }
        Due.build(x, 11, 1);
        Due.build(x, 0, 1);
        Due.outputs(x, 100, 0, 0, 0, 0, 0, 0, 0, 0, 0, 0, 111);
    }

    /** So many builds of task 1, which needs task 0; task 2 is never built. */
    private static BuildGraph built(int builds) {
        BuildGraph x = new BuildGraph();
        Due.taskOf(x, 0, 0, 0);
        Due.taskOf(x, 0, 1, 8);
        x.task(0, 2);
        for (int content = 1; content <= builds; content++) {
            x.content(0, content);
            Due.build(x, 1, 2);
        }
        return x;
    }

    private static void fortyBuilds() {
        BuildGraph x = built(39);
        x.content(0, 40);
        Due.build(x, 1, 2);
        x.content(0, 41);
        for (int again = 0; again < 3; again++) {
            Due.build(x, 1, BuildGraph.FULL);
        }
        Due.due("executed()", x.executed(), 80);
    }

    private static void fullForEveryTask() {
        BuildGraph x = built(40);
        Due.build(x, 2, BuildGraph.FULL);
        Due.build(x, 0, BuildGraph.FULL);
        x.task(0, 0);
        Due.build(x, 3, BuildGraph.FULL);
    }

    private static void fullChangesNothing() {
        for (int task = 0; task < 12; task++) {
            int t = task;
            Twins.changesNothing(Twins.ALL_TAKEN, "build(" + t + ")", x -> x.build(t),
                BuildGraph.FULL);
        }
        // With another content, so that a build would execute, keep and remember.
        Twins.State changed = new Twins.State("all taken and a new content", 12, x -> {
            Twins.ALL_TAKEN.calls().accept(x);
            x.content(0, 41);
            x.clean(5);
        });
        for (int task = 0; task < 12; task++) {
            int t = task;
            Twins.changesNothing(changed, "build(" + t + ")", x -> x.build(t), BuildGraph.FULL);
        }
    }

    private static void idleBuildsCount() {
        BuildGraph x = new BuildGraph();
        x.task(0, 5);
        Due.build(x, 0, 1);
        for (int build = 2; build <= 40; build++) {
            Due.build(x, 0, 0);
        }
        Due.build(x, 0, BuildGraph.FULL);
    }

    private static void wrongBuildsDoNotCount() {
        BuildGraph x = built(39);
        for (int again = 0; again < 3; again++) {
            Due.build(x, -1, BuildGraph.BAD_TASK);
            Due.build(x, 3, BuildGraph.BAD_TASK);
        }
        Due.build(x, 2, 1);
        Due.build(x, 2, BuildGraph.FULL);
    }

    private static void workDoesNotCount() {
        BuildGraph x = built(39);
        for (int again = 0; again < 3; again++) {
            Due.due("work(2)", x.work(2), 1);
        }
        Due.build(x, 2, 1);
    }

    private static void emptiedWhenFull() {
        BuildGraph x = built(40);
        Due.build(x, 2, BuildGraph.FULL);
        Due.build(x, 2, BuildGraph.FULL);
        x.emptyStore();
        // The refused builds were not made: forty may be made again, not fewer.
        for (int build = 1; build <= 40; build++) {
            Due.build(x, 2, build == 1 ? 1 : 0);
        }
        Due.build(x, 2, BuildGraph.FULL);
    }

    private static void emptiedBefore() {
        BuildGraph x = built(39);
        x.emptyStore();
        for (int build = 1; build <= 40; build++) {
            Due.build(x, 2, build == 1 ? 1 : 0);
        }
        Due.build(x, 2, BuildGraph.FULL);
    }

    private static void cleanIsNoEmptying() {
        BuildGraph x = built(40);
        x.clean(0);
        x.clean(1);
        Due.build(x, 1, BuildGraph.FULL);
    }

    private static void answersNoneToTwelve() {
        for (int number = 0; number < 12; number++) {
            BuildGraph x = Due.chainOfTwelve();
            Due.build(x, number, number + 1);
            Due.build(x, number, 0);
            Due.build(x, 11, 11 - number);
        }
    }

    private static void countsExecutedAlone() {
        BuildGraph x = new BuildGraph();
        Due.taskOf(x, 0, 0, 0);
        Due.taskOf(x, 0, 0, 1);
        Due.taskOf(x, 0, 0, 2);
        Due.taskOf(x, 0, 0, 8, 9, 10);
        Due.build(x, 3, 4);
        x.content(2, 9);
        x.clean(1);
        Due.build(x, 3, 2);
        Due.statuses(x, BuildGraph.UP_TO_DATE, BuildGraph.FROM_STORE, BuildGraph.EXECUTED,
            BuildGraph.EXECUTED);
    }
}
