/** Promise 11: fresh is the output as if worked out now; the four kinds. */
public final class Promise11FreshTest {
    private static final int SUM = 0;
    private static final int MIX = 1;
    private static final int MAX = 2;
    private static final int LOW = 3;
    private static final int MOST = Integer.MAX_VALUE;
    private static final int LEAST = Integer.MIN_VALUE;

    public static void main(String[] args) {
        sum();
        mix();
        max();
        low();
        looksThroughTasks();
        changesNothing();
        wrongTasks();
        Due.end();
    }

    private static void sum() {
        kind(SUM, 5, 5);
        kind(SUM, 5, -2, -7);
        kind(SUM, 5, 16, 1, 2, 8);
        kind(SUM, MOST, LEAST, 1);
        kind(SUM, LEAST, MOST, -1);
        kind(SUM, 0, 0, LEAST, LEAST);
    }

    private static void mix() {
        kind(MIX, 5, 5);
        kind(MIX, 5, 148, -7);
        kind(MIX, 1, (((31 + 2) * 31) + 3) * 31 + 4, 2, 3, 4);
        kind(MIX, 1, (((31 + 4) * 31) + 3) * 31 + 2, 4, 3, 2);
        kind(MIX, MOST, MOST * 31 + MOST, MOST);
        kind(MIX, 0, 0, 0, 0);
    }

    private static void max() {
        kind(MAX, -5, -5);
        kind(MAX, -5, -5, -6, -7, LEAST);
        kind(MAX, -5, -4, -6, -4, -7);
        kind(MAX, LEAST, -1, -2, -1);
        kind(MAX, 3, MOST, MOST, LEAST);
        // A difference would wrap here.
        kind(MAX, LEAST, 1, 1);
        kind(MAX, MOST, MOST, -2);
    }

    private static void low() {
        kind(LOW, 5, 0);
        kind(LOW, 5, 15, 15);
        kind(LOW, 5, 0, 16);
        kind(LOW, -1, 3, 16, 2, 1);
        kind(LOW, 0, 15, -1);
        kind(LOW, 0, 14, MOST, MOST);
        kind(LOW, 0, 0, LEAST, 0, 0);
    }

    private static void kind(int kind, int constant, int output, int... values) {
        BuildGraph x = new BuildGraph();
        x.task(kind, constant);
        for (int i = 0; i < values.length; i++) {
            x.content(i, values[i]);
            x.input(0, i);
        }
        Due.due("fresh of kind " + kind + ", constant " + constant, x.fresh(0), output);
        x.build(0);
        Due.due("output of kind " + kind + ", constant " + constant, x.output(0), output);
    }

    private static void looksThroughTasks() {
        BuildGraph x = new BuildGraph();
        Due.taskOf(x, SUM, 1, 0);
        for (int number = 1; number < 12; number++) {
            Due.taskOf(x, SUM, 1, 8 + number - 1);
        }
        x.build(11);
        x.content(0, 1000);
        for (int number = 0; number < 12; number++) {
            Due.due("fresh(" + number + ")", x.fresh(number), 1001 + number);
            Due.due("output(" + number + ")", x.output(number), 1 + number);
        }
    }

    private static void changesNothing() {
        BuildGraph x = new BuildGraph();
        x.task(SUM, 4);
        x.fresh(0);
        Due.due("output after fresh", x.output(0), 0);
        Due.due("status after fresh", x.status(0), BuildGraph.NOT_NEEDED);
        Due.due("stale after fresh", x.stale(), 1);
        Due.due("build after fresh", x.build(0), 1);
    }

    private static void wrongTasks() {
        BuildGraph x = new BuildGraph();
        x.task(SUM, 5);
        for (int task : Due.outside(1)) {
            Due.due("fresh(" + task + ")", x.fresh(task), 0);
        }
    }
}
