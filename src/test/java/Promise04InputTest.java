/** Promise 4: input. */
public final class Promise04InputTest {
    private static final String APPENDS =
        "Appends an input to a task: 0 to 7 a source, 8 + k task k.";
    private static final String NO_TASK = "There is no such task: BAD_TASK";
    private static final String NO_INPUT =
        "input neither a source nor a task with a smaller number than the task: BAD_SOURCE";
    private static final String THREE = "it has three: FULL; nothing changes then.";
    private static final String COUNT = "Else answers how many it has.";

    public static void main(String[] args) {
        Due.says(APPENDS, "in order", Promise04InputTest::appendsInOrder);
        Due.says(APPENDS, "every source and task", Promise04InputTest::takesEverySourceAndSmallerTask);
        Due.says(APPENDS, "the largest that each task takes", Promise04InputTest::takesTheTaskBefore);
        Due.says(APPENDS, "the same input again", Promise04InputTest::sameInputAgain);
        Due.says(NO_TASK, "too small", Promise04InputTest::taskTooSmall);
        Due.says(NO_TASK, "too large", Promise04InputTest::taskTooLarge);
        Due.says(NO_TASK, "none yet", Promise04InputTest::noTaskYet);
        Due.says(NO_INPUT, "too small", Promise04InputTest::inputTooSmall);
        Due.says(NO_INPUT, "itself", Promise04InputTest::itself);
        Due.says(NO_INPUT, "a task with a larger number", Promise04InputTest::aLaterTask);
        Due.says(NO_INPUT, "a task that is not there", Promise04InputTest::inputTooLarge);
        Due.says(NO_INPUT, "a first task takes no task", Promise04InputTest::firstTaskTakesNoTask);
        Due.says(THREE, "a fourth", Promise04InputTest::aFourthInput);
        Due.says(THREE, "the next task's places", Promise04InputTest::aFourthInputGoesNowhere);
        Due.says(COUNT, "1 to 3", Promise04InputTest::answersHowMany);
        Due.says(COUNT, "after refused calls", Promise04InputTest::refusedCallsDoNotCount);
        Due.end();
    }

    private static void appendsInOrder() {
        BuildGraph x = new BuildGraph();
        x.content(0, 1);
        x.content(1, 2);
        x.content(2, 3);
        x.task(1, 0);
        x.input(0, 2);
        Due.due("fresh with one input", x.fresh(0), 3);
        x.input(0, 0);
        Due.due("fresh with two inputs", x.fresh(0), 3 * 31 + 1);
        x.input(0, 1);
        Due.due("fresh with three inputs", x.fresh(0), (3 * 31 + 1) * 31 + 2);
    }

    private static void takesEverySourceAndSmallerTask() {
        for (int input = 0; input < 8 + 11; input++) {
            BuildGraph x = new BuildGraph();
            for (int source = 0; source < 8; source++) {
                x.content(source, 1000 + source);
            }
            for (int number = 0; number < 12; number++) {
                x.task(0, number == 11 ? 0 : 1008 + number);
            }
            Due.due("input(11, " + input + ")", x.input(11, input), 1);
            Due.due("fresh(11) of input " + input, x.fresh(11), 1000 + input);
            Due.due("needed(11) of input " + input, x.needed(11), input < 8 ? 1 : 2);
        }
    }

    private static void takesTheTaskBefore() {
        BuildGraph x = new BuildGraph();
        for (int number = 0; number < 12; number++) {
            x.task(0, 10);
            Due.due("input(" + number + ", 7)", x.input(number, 7), 1);
            if (number > 0) {
                Due.due("the task before " + number, x.input(number, 8 + number - 1), 2);
                Due.due("fresh(" + number + ")", x.fresh(number), 10 * (number + 1));
            }
        }
    }

    private static void sameInputAgain() {
        BuildGraph x = new BuildGraph();
        x.content(4, 10);
        Due.taskOf(x, 0, 1, 4, 4, 4);
        Due.taskOf(x, 0, 0, 8, 8);
        Due.due("fresh of a source thrice", x.fresh(0), 31);
        Due.due("fresh of a task twice", x.fresh(1), 62);
    }

    private static void taskTooSmall() {
        Twins.tooSmall("input of a source", (x, t) -> x.input(t, 0), BuildGraph.BAD_TASK);
        Twins.tooSmall("input of a task", (x, t) -> x.input(t, 8), BuildGraph.BAD_TASK);
    }

    private static void taskTooLarge() {
        Twins.tooLargeTask("input of a source", (x, t) -> x.input(t, 0), BuildGraph.BAD_TASK);
        Twins.tooLargeTask("input of a task", (x, t) -> x.input(t, 8), BuildGraph.BAD_TASK);
    }

    private static void noTaskYet() {
        Twins.noTaskYet("input of a source", (x, t) -> x.input(t, 0), BuildGraph.BAD_TASK);
        Twins.noTaskYet("input of a task", (x, t) -> x.input(t, 8), BuildGraph.BAD_TASK);
    }

    private static void inputTooSmall() {
        for (int t = 0; t < Twins.SOME_TASKS.tasks(); t++) {
            refused(t, Due.tooSmall());
        }
    }

    private static void itself() {
        for (int t = 0; t < Twins.SOME_TASKS.tasks(); t++) {
            refused(t, 8 + t);
        }
    }

    private static void aLaterTask() {
        refused(0, 8 + 1, 8 + 2, 8 + 3);
        refused(1, 8 + 2, 8 + 3);
        refused(2, 8 + 3);
    }

    private static void inputTooLarge() {
        for (int t = 0; t < Twins.SOME_TASKS.tasks(); t++) {
            refused(t, Due.tooLarge(8 + Twins.SOME_TASKS.tasks()));
        }
    }

    private static void refused(int task, int... inputs) {
        Twins.ofEach(Twins.SOME_TASKS, "input of task " + task, inputs,
            (x, input) -> x.input(task, input), BuildGraph.BAD_SOURCE);
    }

    private static void firstTaskTakesNoTask() {
        BuildGraph x = new BuildGraph();
        x.task(0, 0);
        for (int input = 8; input < 8 + 12; input++) {
            Due.due("input(0, " + input + ")", x.input(0, input), BuildGraph.BAD_SOURCE);
        }
        Due.due("input(0, 7)", x.input(0, 7), 1);
    }

    private static void aFourthInput() {
        for (int task = 0; task < 12; task++) {
            int t = task;
            Twins.changesNothing(Twins.ALL_TAKEN, "input(" + t + ", 3)", x -> x.input(t, 3),
                BuildGraph.FULL);
            if (t > 0) {
                Twins.changesNothing(Twins.ALL_TAKEN, "input(" + t + ", 8)", x -> x.input(t, 8),
                    BuildGraph.FULL);
            }
        }
        Twins.changesNothing(Twins.SOME_TASKS, "input(1, 8)", x -> x.input(1, 8), BuildGraph.FULL);
    }

    private static void aFourthInputGoesNowhere() {
        BuildGraph x = new BuildGraph();
        x.content(3, 50);
        Due.taskOf(x, 0, 0, 0, 1, 2);
        x.task(0, 7);
        Due.due("a fourth input", x.input(0, 3), BuildGraph.FULL);
        Due.due("fresh after a fourth input", x.fresh(0), 0);
        Due.due("fresh of the next task", x.fresh(1), 7);
        Due.due("the next task's first input", x.input(1, 3), 1);
        Due.due("fresh of the next task then", x.fresh(1), 57);
    }

    private static void answersHowMany() {
        BuildGraph x = new BuildGraph();
        for (int number = 0; number < 12; number++) {
            x.task(0, 0);
        }
        for (int count = 1; count <= 3; count++) {
            for (int number = 0; number < 12; number++) {
                Due.due("input(" + number + ", 0)", x.input(number, 0), count);
            }
        }
    }

    private static void refusedCallsDoNotCount() {
        BuildGraph x = new BuildGraph();
        x.task(0, 0);
        x.task(0, 0);
        for (int count = 1; count <= 3; count++) {
            x.input(1, -1);
            x.input(1, 9);
            x.input(2, 0);
            Due.due("input(1, 8)", x.input(1, 8), count);
        }
        Due.due("input(1, 8)", x.input(1, 8), BuildGraph.FULL);
        Due.due("input(0, 0)", x.input(0, 0), 1);
    }
}
