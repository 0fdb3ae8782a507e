/** Promise 4: input appends an input to a task. */
public final class Promise04InputTest {
    public static void main(String[] args) {
        appendsInOrder();
        takesEverySourceAndSmallerTask();
        sameInputTwiceCountsTwice();
        wrongTasks();
        wrongInputs();
        aFourthInput();
        Due.end();
    }

    private static void appendsInOrder() {
        BuildGraph x = new BuildGraph();
        x.content(0, 1);
        x.content(1, 2);
        x.content(2, 3);
        x.task(1, 0);
        Due.due("input(0, 2)", x.input(0, 2), 1);
        Due.due("fresh with one input", x.fresh(0), 3);
        Due.due("input(0, 0)", x.input(0, 0), 2);
        Due.due("fresh with two inputs", x.fresh(0), 3 * 31 + 1);
        Due.due("input(0, 1)", x.input(0, 1), 3);
        Due.due("fresh with three inputs", x.fresh(0), (3 * 31 + 1) * 31 + 2);
    }

    private static void takesEverySourceAndSmallerTask() {
        for (int input = 0; input < 8 + 11; input++) {
            BuildGraph x = new BuildGraph();
            for (int source = 0; source < 8; source++) {
                x.content(source, 1000 + source);
            }
            for (int number = 0; number < 12; number++) {
                x.task(0, number == 11 ? 0 : 1008 + number);
            }
            Due.due("input(11, " + input + ")", x.input(11, input), 1);
            Due.due("fresh(11) of input " + input, x.fresh(11), 1000 + input);
        }
    }

    private static void sameInputTwiceCountsTwice() {
        BuildGraph x = new BuildGraph();
        x.content(4, 10);
        Due.taskOf(x, 0, 1, 4, 4, 4);
        Due.taskOf(x, 0, 0, 8, 8);
        Due.due("fresh of a source thrice", x.fresh(0), 31);
        Due.due("fresh of a task twice", x.fresh(1), 62);
    }

    private static void wrongTasks() {
        BuildGraph x = new BuildGraph();
        x.task(0, 5);
        x.task(0, 6);
        x.build(1);
        for (int task : Due.outside(2)) {
            Due.due("input(" + task + ", 0)", x.input(task, 0), BuildGraph.BAD_TASK);
            Due.due("input(" + task + ", 8)", x.input(task, 8), BuildGraph.BAD_TASK);
        }
        Due.due("first input after wrong tasks", x.input(0, 0), 1);
        Due.due("first input after wrong tasks", x.input(1, 0), 1);
    }

    private static void wrongInputs() {
        BuildGraph x = new BuildGraph();
        for (int number = 0; number < 12; number++) {
            x.task(0, 1);
        }
        for (int task = 0; task < 12; task++) {
            // Itself is the first that is refused.
            for (int input : Due.outside(8 + task)) {
                Due.due("input(" + task + ", " + input + ")", x.input(task, input), BuildGraph.BAD_SOURCE);
            }
            Due.due("needed after wrong inputs", x.needed(task), 1);
            Due.due("first input after wrong inputs", x.input(task, 0), 1);
        }
    }

    private static void aFourthInput() {
        BuildGraph x = new BuildGraph();
        x.task(0, 100);
        Due.taskOf(x, 0, 0, 0, 1, 2);
        x.task(0, 7);
        x.content(3, 50);
        x.build(1);
        Due.due("a fourth source", x.input(1, 3), BuildGraph.FULL);
        Due.due("a fourth input, a task", x.input(1, 8), BuildGraph.FULL);
        Due.due("fresh after a fourth input", x.fresh(1), 0);
        Due.due("needed after a fourth input", x.needed(1), 1);
        Due.due("work after a fourth input", x.work(1), 0);
        Due.due("the next task has no input yet", x.fresh(2), 7);
        Due.due("the next task's first input", x.input(2, 3), 1);
    }
}
