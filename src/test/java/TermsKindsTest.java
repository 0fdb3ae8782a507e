/** The terms: sources, tasks, inputs, and the outputs of the four kinds. */
public final class TermsKindsTest {
    private static final String COUNTS = "There are eight SOURCES (0 to 7), each with a CONTENT (an "
        + "int), and up to twelve TASKS, numbered from 0.";
    private static final String INPUTS = "A task has a KIND, a constant, and up to three INPUTS, each "
        + "a source or a task with a smaller number.";
    private static final String VALUES = "A task's OUTPUT is worked out from its inputs' values (a "
        + "source's content, a task's output), in order";
    private static final String OF_SUM = "0 SUM   the constant and the sum of the values";
    private static final String OF_MIX = "1 MIX   starting with the constant: for each value";
    private static final String OF_MAX = "2 MAX   the greatest of the values and the constant";
    private static final String OF_LOW = "3 LOW   the sum of the values, its lowest four bits (& 15)";
    private static final String WRAPS = "All arithmetic wraps.";
    private static final int SUM = 0;
    private static final int MIX = 1;
    private static final int MAX = 2;
    private static final int LOW = 3;
    private static final int MOST = Integer.MAX_VALUE;
    private static final int LEAST = Integer.MIN_VALUE;

    public static void main(String[] args) {
        Due.says(COUNTS, "eight sources, twelve tasks", TermsKindsTest::eightAndTwelve);
        Due.says(COUNTS, "least and greatest contents", TermsKindsTest::everyContent);
        Due.says(INPUTS, "a constant for each task", TermsKindsTest::ownKindAndConstant);
        Due.says(VALUES, "sources and tasks mixed", TermsKindsTest::sourcesAndTasks);
        Due.says(OF_SUM, "no value", () -> kind(SUM, 5, 5));
        Due.says(OF_SUM, "one to three values", TermsKindsTest::sum);
        Due.says(OF_MIX, "no value", () -> kind(MIX, 5, 5));
        Due.says(OF_MIX, "one to three values", TermsKindsTest::mix);
        Due.says(OF_MAX, "no value", () -> kind(MAX, -5, -5));
        Due.says(OF_MAX, "the constant is the greatest", TermsKindsTest::maxIsTheConstant);
        Due.says(OF_MAX, "a value is the greatest", TermsKindsTest::maxIsAValue);
        Due.says(OF_MAX, "numbers below 0", TermsKindsTest::maxBelowZero);
        Due.says(OF_LOW, "no value", () -> kind(LOW, 5, 0));
        Due.says(OF_LOW, "15 and 16", TermsKindsTest::low);
        Due.says(OF_LOW, "numbers below 0", TermsKindsTest::lowBelowZero);
        Due.says(OF_LOW, "not the constant", TermsKindsTest::lowWithoutTheConstant);
        Due.says(WRAPS, "SUM above the greatest", TermsKindsTest::sumWrapsUp);
        Due.says(WRAPS, "SUM below the least", TermsKindsTest::sumWrapsDown);
        Due.says(WRAPS, "MIX's product", TermsKindsTest::mixProductWraps);
        Due.says(WRAPS, "MIX's sum", TermsKindsTest::mixSumWraps);
        Due.says(WRAPS, "LOW's sum", TermsKindsTest::lowWraps);
        Due.says(WRAPS, "MAX works nothing out that could", TermsKindsTest::maxAtTheEnds);
        Due.says(WRAPS, "through twelve tasks", TermsKindsTest::wrapsThroughTasks);
        Due.end();
    }

    /** The values are the contents of so many sources, of which the task's inputs are made. */
    private static void kind(int kind, int constant, int output, int... values) {
        BuildGraph x = new BuildGraph();
        x.task(kind, constant);
        for (int i = 0; i < values.length; i++) {
            x.content(i, values[i]);
            x.input(0, i);
        }
        String name = " of kind " + kind + ", constant " + constant;
        Due.due("fresh" + name, x.fresh(0), output);
        x.build(0);
        Due.due("output" + name, x.output(0), output);
    }

    private static void eightAndTwelve() {
        BuildGraph x = new BuildGraph();
        for (int source = 0; source < 8; source++) {
            x.content(source, 1 << source);
        }
        for (int t = 0; t < 12; t++) {
            Due.due("task", Due.taskOf(x, SUM, 1000 * t, t % 8), t);
        }
        for (int t = 0; t < 12; t++) {
            Due.build(x, t, 1);
            Due.due("output(" + t + ")", x.output(t), 1000 * t + (1 << (t % 8)));
        }
    }

    private static void everyContent() {
        for (int content : new int[] {LEAST, LEAST + 1, -1, 0, 1, MOST - 1, MOST}) {
            kind(SUM, 0, content, content);
            kind(MIX, 0, content, content);
            kind(MAX, LEAST, content, content);
        }
    }

    private static void ownKindAndConstant() {
        BuildGraph x = new BuildGraph();
        x.content(0, 20);
        for (int t = 0; t < 12; t++) {
            Due.taskOf(x, t, t, 0);
        }
        for (int t = 0; t < 12; t++) {
            int[] outputs = {t + 20, t * 31 + 20, 20, 4};
            Due.due("fresh(" + t + ")", x.fresh(t), outputs[t % 4]);
        }
    }

    private static void sourcesAndTasks() {
        BuildGraph x = new BuildGraph();
        x.content(0, 2);
        x.content(7, 3);
        Due.taskOf(x, SUM, 5, 0);
        Due.taskOf(x, MIX, 1, 7, 8, 0);
        Due.taskOf(x, MIX, 1, 8, 7, 0);
        Due.due("fresh(1)", x.fresh(1), ((31 + 3) * 31 + 7) * 31 + 2);
        Due.due("fresh(2)", x.fresh(2), ((31 + 7) * 31 + 3) * 31 + 2);
    }

    private static void sum() {
        kind(SUM, 5, -2, -7);
        kind(SUM, 5, 2, -7, 4);
        kind(SUM, 5, 16, 1, 2, 8);
    }

    private static void mix() {
        kind(MIX, 5, 148, -7);
        kind(MIX, 5, 148 * 31 + 4, -7, 4);
        kind(MIX, 1, (((31 + 2) * 31) + 3) * 31 + 4, 2, 3, 4);
        kind(MIX, 1, (((31 + 4) * 31) + 3) * 31 + 2, 4, 3, 2);
        kind(MIX, 0, 0, 0, 0);
        kind(MIX, 1, 31 * 31 * 31, 0, 0, 0);
    }

    private static void maxIsTheConstant() {
        kind(MAX, 9, 9, 8);
        kind(MAX, 9, 9, 9, 8, -10);
    }

    private static void maxIsAValue() {
        kind(MAX, 3, 7, 7, 5, 6);
        kind(MAX, 3, 7, 5, 7, 6);
        kind(MAX, 3, 7, 5, 6, 7);
    }

    private static void maxBelowZero() {
        kind(MAX, -5, -5, -6, -7, LEAST);
        kind(MAX, -5, -4, -6, -4, -7);
        kind(MAX, LEAST, -1, -2, -1);
    }

    private static void low() {
        kind(LOW, 0, 15, 15);
        kind(LOW, 0, 0, 16);
        kind(LOW, 0, 1, 17);
        kind(LOW, 0, 3, 16, 2, 1);
        kind(LOW, 0, 0, 8, 8);
        kind(LOW, 0, 14, 15, 15);
    }

    private static void lowBelowZero() {
        kind(LOW, 0, 15, -1);
        kind(LOW, 0, 0, -16);
        kind(LOW, 0, 15, -17);
        kind(LOW, 0, 14, -1, -1);
    }

    private static void lowWithoutTheConstant() {
        kind(LOW, 7, 2, 2);
        kind(LOW, -1, 2, 2);
        kind(LOW, MOST, 0);
    }

    private static void sumWrapsUp() {
        kind(SUM, MOST, LEAST, 1);
        kind(SUM, 1, LEAST, MOST);
        kind(SUM, 0, -2, MOST, MOST);
        kind(SUM, MOST, -4, MOST, MOST, MOST);
    }

    private static void sumWrapsDown() {
        kind(SUM, LEAST, MOST, -1);
        kind(SUM, 0, 0, LEAST, LEAST);
        kind(SUM, LEAST, LEAST, LEAST, LEAST);
        kind(SUM, -1, MOST, LEAST);
    }

    private static void mixProductWraps() {
        // 31 * 2^28 is 2^33 - 2^28.
        kind(MIX, 1 << 28, -(1 << 28), 0);
        kind(MIX, LEAST, LEAST, 0);
        kind(MIX, MOST, MOST - 30, 0);
        // 31 * 31 * 31 * 31 * 31 * 31 * 31 is 27512614111, six times 2^32 and 1742810335 more.
        kind(MIX, 31 * 31 * 31 * 31, 1742810335, 0, 0, 0);
    }

    private static void mixSumWraps() {
        kind(MIX, 1, LEAST + 30, MOST);
        kind(MIX, -1, MOST - 30, LEAST);
        kind(MIX, MOST, -32, MOST);
    }

    private static void lowWraps() {
        kind(LOW, 0, 14, MOST, MOST);
        kind(LOW, 0, 13, MOST, MOST, MOST);
        kind(LOW, 0, 15, LEAST, -1);
        kind(LOW, 0, 0, LEAST, LEAST);
    }

    private static void maxAtTheEnds() {
        // The difference of these would wrap.
        kind(MAX, LEAST, 1, 1);
        kind(MAX, MOST, MOST, -2);
        kind(MAX, LEAST, MOST, LEAST, MOST);
        kind(MAX, LEAST, LEAST, LEAST);
        kind(MAX, 1, 1, LEAST);
    }

    private static void wrapsThroughTasks() {
        BuildGraph x = new BuildGraph();
        Due.taskOf(x, SUM, 1);
        for (int t = 1; t < 12; t++) {
            Due.taskOf(x, SUM, 0, 8 + t - 1, 8 + t - 1, 8 + t - 1);
        }
        x.constant(0, 1 << 20);
        // 3^11 is 177147; of that times 2^20 its twelve lowest bits, 1019, are left.
        x.build(11);
        Due.due("output(11)", x.output(11), 1019 << 20);
        Due.due("fresh(11)", x.fresh(11), 1019 << 20);
    }
}
