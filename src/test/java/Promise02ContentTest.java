/** Promise 2: content. */
public final class Promise02ContentTest {
    private static final String SETS = "Sets a source's content.";
    private static final String REFUSED = "source not in 0 to 7: BAD_SOURCE, nothing changes.";
    private static final String OLD = "Else answers the old one.";

    public static void main(String[] args) {
        Due.says(SETS, "each of the eight", Promise02ContentTest::eachSourceHasItsOwn);
        Due.says(SETS, "seen by the next look", Promise02ContentTest::isSeenAtOnce);
        Due.says(REFUSED, "too small", Promise02ContentTest::tooSmall);
        Due.says(REFUSED, "too large", Promise02ContentTest::tooLarge);
        Due.says(OLD, "the first and the last source", Promise02ContentTest::firstAndLast);
        Due.says(OLD, "least and greatest contents", Promise02ContentTest::answersTheOldContent);
        Due.says(OLD, "after a refused call", Promise02ContentTest::afterARefusedCall);
        Due.end();
    }

    private static void eachSourceHasItsOwn() {
        BuildGraph x = new BuildGraph();
        for (int source = 0; source < 8; source++) {
            x.content(source, 100 + source);
        }
        for (int source = 0; source < 8; source++) {
            Due.taskOf(x, 0, 0, source);
            Due.due("fresh of source " + source, x.fresh(source), 100 + source);
            Due.due("content of source " + source, x.content(source, 0), 100 + source);
        }
    }

    private static void isSeenAtOnce() {
        BuildGraph x = new BuildGraph();
        Due.taskOf(x, 0, 0, 7);
        x.build(0);
        x.content(7, 3);
        Due.due("fresh(0)", x.fresh(0), 3);
        Due.due("stale()", x.stale(), 1);
        Due.due("output(0) before a build", x.output(0), 0);
    }

    private static void tooSmall() {
        Twins.tooSmall("content", (x, source) -> x.content(source, 5), BuildGraph.BAD_SOURCE);
    }

    private static void tooLarge() {
        for (Twins.State state : Twins.STATES) {
            Twins.ofEach(state, "content", Due.tooLarge(8),
                (x, source) -> x.content(source, 5), BuildGraph.BAD_SOURCE);
        }
    }

    private static void firstAndLast() {
        BuildGraph x = new BuildGraph();
        Due.due("content(0, 4)", x.content(0, 4), 0);
        Due.due("content(7, 6)", x.content(7, 6), 0);
        Due.due("content(0, 1)", x.content(0, 1), 4);
        Due.due("content(7, 1)", x.content(7, 1), 6);
    }

    private static void answersTheOldContent() {
        BuildGraph x = new BuildGraph();
        int[] contents = {7, -7, Integer.MIN_VALUE, Integer.MAX_VALUE, 0, -2, -2};
        int old = 0;
        for (int content : contents) {
            Due.due("content(3, " + content + ")", x.content(3, content), old);
            old = content;
        }
    }

    private static void afterARefusedCall() {
        BuildGraph x = new BuildGraph();
        x.content(0, 8);
        x.content(7, 9);
        x.content(-1, 5);
        x.content(8, 5);
        Due.due("content(0, 0)", x.content(0, 0), 8);
        Due.due("content(7, 0)", x.content(7, 0), 9);
    }
}
