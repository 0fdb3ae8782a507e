import java.util.function.ToIntBiFunction;

/** The seven calls of which the document says that they change nothing. */
public final class LooksChangeNothingTest {
    private static final String SENTENCE = "The calls below change nothing.";

    public static void main(String[] args) {
        Due.says(SENTENCE, "status", () -> ofEveryTask("status", BuildGraph::status));
        Due.says(SENTENCE, "output", () -> ofEveryTask("output", BuildGraph::output));
        Due.says(SENTENCE, "fresh", () -> ofEveryTask("fresh", BuildGraph::fresh));
        Due.says(SENTENCE, "needed", () -> ofEveryTask("needed", BuildGraph::needed));
        Due.says(SENTENCE, "work", () -> ofEveryTask("work", BuildGraph::work));
        Due.says(SENTENCE, "executed", () -> ofEveryTask("executed", (x, t) -> x.executed()));
        Due.says(SENTENCE, "stale", () -> ofEveryTask("stale", (x, t) -> x.stale()));
        Due.end();
    }

    /** Of tasks that are there; those that are not stand in the tests of the seven promises. */
    private static void ofEveryTask(String name, ToIntBiFunction<BuildGraph, Integer> look) {
        for (Twins.State state : Twins.STATES) {
            for (int t = 0; t < Math.max(1, state.tasks()); t++) {
                int answer = look.applyAsInt(state.make(), t);
                Twins.ofEach(state, name, new int[] {t}, look, answer);
            }
        }
        changedContent(name, look);
    }

    /** With a new content, so that what is worked out now is not what was built. */
    private static void changedContent(String name, ToIntBiFunction<BuildGraph, Integer> look) {
        Twins.State changed = new Twins.State("some tasks and a new content", 4, x -> {
            Twins.SOME_TASKS.calls().accept(x);
            x.content(0, 30);
        });
        for (int t = 0; t < changed.tasks(); t++) {
            int answer = look.applyAsInt(changed.make(), t);
            Twins.ofEach(changed, name, new int[] {t}, look, answer);
        }
    }
}
