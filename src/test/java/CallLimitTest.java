/** The number of calls that an object is used for. */
public final class CallLimitTest {
    private static final String SENTENCE =
        "An object is used for at most 512 calls after it has been made";

    private static final String LATER = "what later calls answer is free";

    public static void main(String[] args) {
        Due.says(SENTENCE, "the 512th, after as many builds as there can be", CallLimitTest::builds);
        Due.says(SENTENCE, "the 512th, all others refused", CallLimitTest::refusedCalls);
        // LANGUAGE.md, rule 7: free, but no call may throw or fail to end.
        Due.says(LATER, "they end without a throw", CallLimitTest::laterCalls);
        Due.end();
    }

    private static void builds() {
        BuildGraph x = new BuildGraph();
        x.task(0, 0);
        x.input(0, 0);
        int content = 0;
        int calls = 2;
        // Six times 81 calls are 486, of 510.
        for (int round = 1; round <= 6; round++) {
            x.emptyStore();
            for (int build = 1; build <= 40; build++) {
                content++;
                x.content(0, content);
                Due.build(x, 0, 1);
            }
            calls += 81;
        }
        while (calls < 511) {
            Due.build(x, 0, BuildGraph.FULL);
            calls++;
        }
        Due.due("executed(), call 512", x.executed(), 240);
    }

    private static void refusedCalls() {
        BuildGraph x = new BuildGraph();
        for (int i = 0; i < 255; i++) {
            Due.due("build(0)", x.build(0), BuildGraph.BAD_TASK);
            Due.due("content(8, 1)", x.content(8, 1), BuildGraph.BAD_SOURCE);
        }
        Due.due("task(0, 3), call 511", x.task(0, 3), 0);
        Due.due("build(0), call 512", x.build(0), 1);
    }

    private static void laterCalls() {
        BuildGraph x = Due.chainOfTwelve();
        int[] numbers = {-1, 0, 7, 8, 11, 12, 19, 20, Integer.MIN_VALUE, Integer.MAX_VALUE};
        for (int round = 0; round < 200; round++) {
            for (int number : numbers) {
                everyCall(x, number, round);
            }
            if (round % 50 == 49) {
                x.emptyStore();
            }
        }
    }

    private static void everyCall(BuildGraph x, int number, int content) {
        x.content(number, content);
        x.task(number, content);
        x.input(number, content);
        x.input(content, number);
        x.constant(number, content);
        x.build(number);
        x.clean(number);
        x.status(number);
        x.output(number);
        x.fresh(number);
        x.needed(number);
        x.work(number);
        x.executed();
        x.stale();
    }
}
