/**
 * Long runs of calls, each answered by the class and by the model. The calls are
 * drawn from a fixed row of numbers, so every run of this test is the same.
 */
public final class ModelTest {
    private static final int RUNS = 600;
    private static final int CALLS = 512;
    private static final int[] EDGES = {-1, 12, 8, 19, 20, Integer.MIN_VALUE, Integer.MAX_VALUE, -8};

    private static long row = 20261115;

    public static void main(String[] args) {
        for (int run = 0; run < RUNS; run++) {
            oneRun(run);
        }
        Due.end();
    }

    private static int draw(int bound) {
        row = row * 6364136223846793005L + 1442695040888963407L;
        return (int) ((row >>> 33) % bound);
    }

    private static void oneRun(int run) {
        BuildGraph x = new BuildGraph();
        Model m = new Model();
        int tasks = draw(13);
        for (int call = 0; call < CALLS; call++) {
            // Tasks first in most runs, or the graph would stay small for long.
            int which = call < tasks ? 1 : draw(run % 3 == 0 ? 60 : 48);
            oneCall(run + "." + call, x, m, which);
        }
    }

    private static void oneCall(String at, BuildGraph x, Model m, int which) {
        int t = drawTask();
        int n = drawNumber();
        if (which == 0 || which == 1) {
            int kind = drawNumber();
            Due.due(at + " task(" + kind + ", " + n + ")", x.task(kind, n), m.task(kind, n));
        } else if (which < 8) {
            int input = draw(10) == 0 ? EDGES[draw(EDGES.length)] : draw(20);
            Due.due(at + " input(" + t + ", " + input + ")", x.input(t, input), m.input(t, input));
        } else if (which < 14) {
            int source = draw(10) == 0 ? EDGES[draw(EDGES.length)] : draw(8);
            Due.due(at + " content(" + source + ", " + n + ")", x.content(source, n), m.content(source, n));
        } else if (which < 17) {
            Due.due(at + " constant(" + t + ", " + n + ")", x.constant(t, n), m.constant(t, n));
        } else if (which < 19) {
            Due.due(at + " clean(" + t + ")", x.clean(t), m.clean(t));
        } else if (which == 19) {
            emptyStoreSometimes(x, m);
        } else if (which < 27 || which >= 48) {
            Due.due(at + " build(" + t + ")", x.build(t), m.build(t));
        } else {
            look(at, x, m, which % 7, t);
        }
    }

    private static void emptyStoreSometimes(BuildGraph x, Model m) {
        if (draw(3) == 0) {
            x.emptyStore();
            m.emptyStore();
        }
    }

    private static void look(String at, BuildGraph x, Model m, int which, int t) {
        switch (which) {
            case 0:
                Due.due(at + " status(" + t + ")", x.status(t), m.status(t));
                break;
            case 1:
                Due.due(at + " output(" + t + ")", x.output(t), m.output(t));
                break;
            case 2:
                Due.due(at + " fresh(" + t + ")", x.fresh(t), m.fresh(t));
                break;
            case 3:
                Due.due(at + " needed(" + t + ")", x.needed(t), m.needed(t));
                break;
            case 4:
                Due.due(at + " work(" + t + ")", x.work(t), m.work(t));
                break;
            case 5:
                Due.due(at + " executed()", x.executed(), m.executed());
                break;
            default:
                Due.due(at + " stale()", x.stale(), m.stale());
        }
    }

    private static int drawTask() {
        return draw(16) == 0 ? EDGES[draw(EDGES.length)] : draw(12);
    }

    /** Mostly few small numbers, so that records come back. */
    private static int drawNumber() {
        int pick = draw(12);
        if (pick == 0) {
            return EDGES[draw(EDGES.length)];
        }
        return pick == 1 ? (int) (row >>> 20) : draw(4) - 1;
    }
}
