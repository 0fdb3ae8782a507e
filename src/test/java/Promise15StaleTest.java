/** Promise 15: stale. */
public final class Promise15StaleTest {
    private static final String SENTENCE = "How many of the tasks have a last record that is not "
        + "their record as of now, or have none.";

    public static void main(String[] args) {
        Due.says(SENTENCE, "no tasks", Promise15StaleTest::noTasks);
        Due.says(SENTENCE, "none have one", Promise15StaleTest::noneHaveOne);
        Due.says(SENTENCE, "twelve to none", Promise15StaleTest::twelveToNone);
        Due.says(SENTENCE, "a record of zeros", Promise15StaleTest::aRecordOfZeros);
        Due.says(SENTENCE, "after clean", Promise15StaleTest::afterClean);
        Due.says(SENTENCE, "another record", Promise15StaleTest::anotherRecord);
        Due.says(SENTENCE, "one input of value 0 more", Promise15StaleTest::anInputMore);
        Due.says(SENTENCE, "the same output", Promise15StaleTest::byRecordNotByOutput);
        Due.says(SENTENCE, "the store", Promise15StaleTest::theStoreDoesNotMatter);
        Due.end();
    }

    private static void stale(String when, BuildGraph x, int want) {
        Due.due("stale() " + when, x.stale(), want);
    }

    private static void noTasks() {
        BuildGraph x = new BuildGraph();
        stale("without tasks", x, 0);
        x.build(0);
        stale("after a refused build", x, 0);
    }

    private static void noneHaveOne() {
        BuildGraph x = new BuildGraph();
        for (int number = 0; number < 12; number++) {
            x.task(0, 0);
            stale("without builds", x, number + 1);
        }
    }

    private static void twelveToNone() {
        BuildGraph x = Due.chainOfTwelve();
        for (int number = 0; number < 12; number++) {
            x.build(number);
            stale("after build(" + number + ")", x, 11 - number);
        }
        x.content(0, 5);
        stale("after content", x, 12);
    }

    private static void aRecordOfZeros() {
        BuildGraph x = new BuildGraph();
        x.task(0, 0);
        stale("before a build", x, 1);
        x.build(0);
        stale("after a build", x, 0);
        x.clean(0);
        stale("after clean", x, 1);
    }

    private static void afterClean() {
        BuildGraph x = Due.chainOfTwelve();
        x.build(11);
        x.clean(0);
        x.clean(5);
        x.clean(11);
        stale("after three cleans", x, 3);
    }

    private static void anotherRecord() {
        BuildGraph x = new BuildGraph();
        Due.taskOf(x, 0, 0, 0);
        Due.taskOf(x, 0, 0, 1);
        Due.taskOf(x, 0, 0, 8, 9);
        x.build(2);
        stale("after a build", x, 0);
        x.content(2, 1);
        stale("after an unused source", x, 0);
        x.content(1, 1);
        stale("after a source", x, 2);
        x.constant(2, 1);
        stale("after a constant", x, 2);
        x.build(2);
        stale("after build(2)", x, 0);
    }

    private static void anInputMore() {
        BuildGraph x = new BuildGraph();
        x.task(0, 0);
        for (int count = 1; count <= 3; count++) {
            x.build(0);
            stale("after a build", x, 0);
            x.input(0, count);
            stale("with " + count + " inputs", x, 1);
        }
    }

    private static void byRecordNotByOutput() {
        BuildGraph x = new BuildGraph();
        x.content(0, 1);
        Due.taskOf(x, 0, 0, 0, 1);
        Due.taskOf(x, 0, 0, 8);
        x.build(1);
        x.content(0, 0);
        x.content(1, 1);
        stale("with the same output", x, 1);
    }

    private static void theStoreDoesNotMatter() {
        BuildGraph x = new BuildGraph();
        Due.taskOf(x, 0, 0, 0);
        x.build(0);
        x.content(0, 1);
        x.build(0);
        x.content(0, 0);
        stale("with the record in the store", x, 1);
        x.content(0, 1);
        x.emptyStore();
        stale("with an empty store", x, 0);
    }
}
