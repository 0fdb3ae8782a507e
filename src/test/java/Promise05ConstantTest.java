/** Promise 5: constant. */
public final class Promise05ConstantTest {
    private static final String GIVES = "Gives a task another constant.";
    private static final String REFUSED = "BAD_TASK, nothing changes.";
    private static final String OLD = "Else answers the old one.";

    public static void main(String[] args) {
        Due.says(GIVES, "seen by the next look", Promise05ConstantTest::isSeenAtOnce);
        Due.says(GIVES, "the same one", Promise05ConstantTest::theSameConstant);
        Due.says(GIVES, "of every kind", Promise05ConstantTest::isPartOfTheRecordOfEveryKind);
        Due.says(REFUSED, "too small", () -> Twins.tooSmall("constant",
            (x, t) -> x.constant(t, 8), BuildGraph.BAD_TASK));
        Due.says(REFUSED, "too large", () -> Twins.tooLargeTask("constant",
            (x, t) -> x.constant(t, 8), BuildGraph.BAD_TASK));
        Due.says(REFUSED, "none yet", () -> Twins.noTaskYet("constant",
            (x, t) -> x.constant(t, 8), BuildGraph.BAD_TASK));
        Due.says(REFUSED, "a task added later", Promise05ConstantTest::aTaskAddedLater);
        Due.says(OLD, "least and greatest", Promise05ConstantTest::answersTheOldConstant);
        Due.says(OLD, "the first and the last task", Promise05ConstantTest::firstAndLast);
        Due.end();
    }

    private static void isSeenAtOnce() {
        BuildGraph x = new BuildGraph();
        x.task(0, 1);
        x.build(0);
        x.constant(0, 2);
        Due.due("fresh(0)", x.fresh(0), 2);
        Due.due("output stays until a build", x.output(0), 1);
        Due.due("status stays until a build", x.status(0), BuildGraph.EXECUTED);
        Due.due("stale with another constant", x.stale(), 1);
        x.constant(0, 1);
        Due.due("stale with the constant back", x.stale(), 0);
    }

    private static void theSameConstant() {
        BuildGraph x = new BuildGraph();
        x.task(0, 1);
        x.build(0);
        Due.due("constant(0, 1)", x.constant(0, 1), 1);
        Due.due("stale()", x.stale(), 0);
        Due.due("work(0)", x.work(0), 0);
    }

    private static void isPartOfTheRecordOfEveryKind() {
        for (int kind = 0; kind < 4; kind++) {
            BuildGraph x = new BuildGraph();
            x.task(kind, 1);
            x.build(0);
            x.constant(0, 2);
            Due.due("build of kind " + kind + " with another constant", x.build(0), 1);
        }
    }

    private static void aTaskAddedLater() {
        BuildGraph x = new BuildGraph();
        x.task(0, 3);
        Due.due("constant(1, 8)", x.constant(1, 8), BuildGraph.BAD_TASK);
        x.task(0, 6);
        Due.due("fresh(0)", x.fresh(0), 3);
        Due.due("fresh(1)", x.fresh(1), 6);
        Due.due("constant(1, 8)", x.constant(1, 8), 6);
    }

    private static void answersTheOldConstant() {
        BuildGraph x = new BuildGraph();
        x.task(0, -9);
        x.task(0, 4);
        int[] constants = {Integer.MAX_VALUE, Integer.MIN_VALUE, 0, -1, -1};
        int old = -9;
        for (int constant : constants) {
            Due.due("constant(0, " + constant + ")", x.constant(0, constant), old);
            Due.due("fresh(0)", x.fresh(0), constant);
            old = constant;
        }
        Due.due("the other task's constant", x.constant(1, 0), 4);
    }

    private static void firstAndLast() {
        BuildGraph x = new BuildGraph();
        for (int number = 0; number < 12; number++) {
            x.task(0, 100 + number);
        }
        Due.due("constant(11, 5)", x.constant(11, 5), 111);
        Due.due("constant(0, 6)", x.constant(0, 6), 100);
        Due.due("fresh(11)", x.fresh(11), 5);
        Due.due("fresh(0)", x.fresh(0), 6);
    }
}
