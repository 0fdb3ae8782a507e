/** Counts and prints the answers that are not the ones that are due. */
final class Due {
    private static int wrong = 0;

    private Due() {
    }

    static void due(String call, long got, long want) {
        if (got != want) {
            wrong++;
            System.out.println(call + " answered " + got + ", due is " + want);
        }
    }

    static void end() {
        if (wrong != 0) {
            System.out.println(wrong + " answers are not as due");
            System.exit(1);
        }
    }

    /** Numbers that never name one of so many things counted from 0. */
    static int[] outside(int count) {
        return new int[] {-1, -2, count, count + 1, Integer.MIN_VALUE, Integer.MAX_VALUE};
    }

    /** A task with the inputs given, in order; answers its number. */
    static int taskOf(BuildGraph x, int kind, int constant, int... inputs) {
        int number = x.task(kind, constant);
        for (int i = 0; i < inputs.length; i++) {
            due("input(" + number + ", " + inputs[i] + ")", x.input(number, inputs[i]), i + 1);
        }
        return number;
    }
}
