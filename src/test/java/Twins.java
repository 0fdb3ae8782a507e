import java.util.ArrayList;
import java.util.List;
import java.util.function.BiConsumer;
import java.util.function.Consumer;
import java.util.function.ToIntBiFunction;
import java.util.function.ToIntFunction;

/**
 * Shows that a call changes nothing: of two objects in the same state one gets the call and the
 * other does not, and from then on both must give the same answers.
 */
final class Twins {
    /** A state to start from: how many tasks it has, and the calls that lead to it. */
    record State(String name, int tasks, Consumer<BuildGraph> calls) {
        BuildGraph make() {
            BuildGraph x = new BuildGraph();
            calls.accept(x);
            return x;
        }
    }

    /** Calls and what they answered, a line each, of an object with so many tasks. */
    static final class Answers {
        final int tasks;
        final List<String> lines = new ArrayList<>();

        Answers(int tasks) {
            this.tasks = tasks;
        }

        void add(String call, int answer) {
            lines.add(call + " answered " + answer);
        }
    }

    static final State NEW_OBJECT = new State("a new object", 0, x -> { });
    static final State SOME_TASKS = new State("some tasks", 4, Twins::someTasks);
    static final State ALL_TAKEN = new State("all places taken", 12, Twins::allTaken);
    static final List<State> STATES = List.of(NEW_OBJECT, SOME_TASKS, ALL_TAKEN);

    // Several, each on new twins, because most of them change what the next would look at, and
    // because an object has no more than 512 calls.
    private static final List<BiConsumer<BuildGraph, Answers>> PROBES = List.of(
        Twins::looks, Twins::numbersGiven, Twins::placesLeft, Twins::lastRecords,
        Twins::storedRecords, Twins::buildsLeft);

    private Twins() {
    }

    static void changesNothing(State state, String name, ToIntFunction<BuildGraph> call, int want) {
        for (BiConsumer<BuildGraph, Answers> probe : PROBES) {
            BuildGraph touched = state.make();
            Due.due(name + " on " + state.name(), call.applyAsInt(touched), want);
            Answers got = new Answers(state.tasks());
            probe.accept(touched, got);
            Answers due = new Answers(state.tasks());
            probe.accept(state.make(), due);
            compare(name + " on " + state.name(), got.lines, due.lines);
        }
    }

    /** A call with a source or a task's number as its argument, on every state, with numbers below 0. */
    static void tooSmall(String name, ToIntBiFunction<BuildGraph, Integer> call, int want) {
        for (State state : STATES) {
            ofEach(state, name, Due.tooSmall(), call, want);
        }
    }

    /** A call on a task that is not there, on states with tasks: the first is one past the last. */
    static void tooLargeTask(String name, ToIntBiFunction<BuildGraph, Integer> call, int want) {
        ofEach(SOME_TASKS, name, Due.tooLarge(SOME_TASKS.tasks()), call, want);
        ofEach(ALL_TAKEN, name, Due.tooLarge(ALL_TAKEN.tasks()), call, want);
    }

    /** A call on a task where there is none yet. */
    static void noTaskYet(String name, ToIntBiFunction<BuildGraph, Integer> call, int want) {
        ofEach(NEW_OBJECT, name, new int[] {0, 1, 11}, call, want);
        ofEach(NEW_OBJECT, name, Due.tooLarge(12), call, want);
    }

    static void ofEach(State state, String name, int[] numbers,
            ToIntBiFunction<BuildGraph, Integer> call, int want) {
        for (int number : numbers) {
            changesNothing(state, name + " of " + number, x -> call.applyAsInt(x, number), want);
        }
    }

    private static void compare(String name, List<String> got, List<String> want) {
        for (int i = 0; i < want.size(); i++) {
            Due.same("after " + name, got.get(i), want.get(i));
        }
    }

    /** Tasks with and without inputs, a last record, a status; three builds. */
    private static void someTasks(BuildGraph x) {
        x.content(0, 1);
        x.content(7, -5);
        Due.taskOf(x, 0, 3, 0, 7);
        Due.taskOf(x, 3, 9, 8, 8, 0);
        Due.taskOf(x, 2, -4);
        Due.taskOf(x, 1, 2, 9);
        x.build(3);
        x.content(0, 2);
        x.build(3);
        x.content(0, 4);
        x.build(1);
        x.clean(0);
    }

    /** Twelve tasks, three inputs in each, forty builds, forty records of each in the store. */
    private static void allTaken(BuildGraph x) {
        for (int t = 0; t < 12; t++) {
            Due.taskOf(x, t, 100 + t, 0, t % 8, t == 0 ? 1 : 8 + t - 1);
        }
        for (int content = 1; content <= 40; content++) {
            x.content(0, content);
            Due.build(x, 11, 12);
        }
    }

    private static void looks(BuildGraph x, Answers answers) {
        for (int t = -1; t <= 12; t++) {
            answers.add("status(" + t + ")", x.status(t));
            answers.add("output(" + t + ")", x.output(t));
            answers.add("fresh(" + t + ")", x.fresh(t));
            answers.add("needed(" + t + ")", x.needed(t));
            answers.add("work(" + t + ")", x.work(t));
        }
        answers.add("executed()", x.executed());
        answers.add("stale()", x.stale());
    }

    private static void numbersGiven(BuildGraph x, Answers answers) {
        for (int source = 0; source < 8; source++) {
            answers.add("content(" + source + ", 77)", x.content(source, 77));
        }
        for (int t = 0; t < 12; t++) {
            answers.add("constant(" + t + ", 78)", x.constant(t, 78));
            answers.add("fresh(" + t + ")", x.fresh(t));
        }
    }

    private static void placesLeft(BuildGraph x, Answers answers) {
        for (int i = 0; i < 13; i++) {
            answers.add("task(0, 5)", x.task(0, 5));
        }
        for (int t = 0; t < 12; t++) {
            for (int i = 0; i < 4; i++) {
                answers.add("input(" + t + ", 3)", x.input(t, 3));
            }
            answers.add("fresh(" + t + ")", x.fresh(t));
            answers.add("needed(" + t + ")", x.needed(t));
            answers.add("status(" + t + ")", x.status(t));
            answers.add("output(" + t + ")", x.output(t));
        }
    }

    private static void lastRecords(BuildGraph x, Answers answers) {
        for (int content = 0; content <= 41; content++) {
            x.content(0, content);
            answers.add("stale() with content " + content, x.stale());
        }
        for (int t = 0; t < 12; t++) {
            answers.add("clean(" + t + ")", x.clean(t));
        }
    }

    private static void storedRecords(BuildGraph x, Answers answers) {
        for (int t = 0; t < 12; t++) {
            x.clean(t);
        }
        for (int content = 0; content <= 41; content++) {
            x.content(0, content);
            answers.add("work(3) with content " + content, x.work(3));
            answers.add("work(11) with content " + content, x.work(11));
        }
    }

    private static void buildsLeft(BuildGraph x, Answers answers) {
        // Not where there are tasks: a refused call here could hide what one did before.
        if (answers.tasks == 0) {
            answers.add("task(1, 6)", x.task(1, 6));
        }
        for (int i = 0; i < 41; i++) {
            answers.add("build(0)", x.build(0));
        }
        answers.add("executed()", x.executed());
        x.emptyStore();
        for (int i = 0; i < 41; i++) {
            answers.add("build(0) after emptyStore", x.build(0));
        }
    }
}
