/** Counts and prints the answers that are not the ones that are due. */
final class Due {
    private static int wrong = 0;
    private static String tested = "";

    private Due() {
    }

    /** The test of one case of a sentence of the document; wrong answers are printed with both. */
    static void says(String sentence, String ofCase, Runnable test) {
        tested = "\"" + sentence + "\" (" + ofCase + "): ";
        try {
            test.run();
        } catch (RuntimeException thrown) {
            fail("a call threw " + thrown);
        }
        tested = "";
    }

    static void due(String call, long got, long want) {
        if (got != want) {
            fail(call + " answered " + got + ", due is " + want);
        }
    }

    static void same(String when, String got, String want) {
        if (!got.equals(want)) {
            fail(when + ": " + got + ", due is " + want);
        }
    }

    private static void fail(String text) {
        wrong++;
        System.out.println(tested + text);
    }

    static void end() {
        if (wrong != 0) {
            System.out.println(wrong + " answers are not as due");
            System.exit(1);
        }
    }

    /** Numbers below 0, which never name a source or a task. */
    static int[] tooSmall() {
        return new int[] {-1, -2, -8, -256, -65536, Integer.MIN_VALUE + 1, Integer.MIN_VALUE};
    }

    /** Numbers that are too large to name one of so many things counted from 0. */
    static int[] tooLarge(int count) {
        return new int[] {count, count + 1, 256, 65536, Integer.MAX_VALUE - 1, Integer.MAX_VALUE};
    }

    /** A task with the inputs given, in order; answers its number. */
    static int taskOf(BuildGraph x, int kind, int constant, int... inputs) {
        int number = x.task(kind, constant);
        for (int i = 0; i < inputs.length; i++) {
            due("input(" + number + ", " + inputs[i] + ")", x.input(number, inputs[i]), i + 1);
        }
        return number;
    }

    /** Twelve tasks, each but the first with the one before it as its only input. */
    static BuildGraph chainOfTwelve() {
        BuildGraph x = new BuildGraph();
        taskOf(x, 0, 1, 0);
        for (int number = 1; number < 12; number++) {
            taskOf(x, 0, 1, 8 + number - 1);
        }
        return x;
    }

    static void build(BuildGraph x, int task, int executed) {
        due("build(" + task + ")", x.build(task), executed);
    }

    /** The statuses of the tasks from 0 on. */
    static void statuses(BuildGraph x, int... want) {
        for (int t = 0; t < want.length; t++) {
            due("status(" + t + ")", x.status(t), want[t]);
        }
    }

    /** The outputs of the tasks from 0 on. */
    static void outputs(BuildGraph x, int... want) {
        for (int t = 0; t < want.length; t++) {
            due("output(" + t + ")", x.output(t), want[t]);
        }
    }
}
