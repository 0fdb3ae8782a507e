/** Promise 2: content sets a source's content and answers the old one. */
public final class Promise02ContentTest {
    public static void main(String[] args) {
        answersTheOldContent();
        eachSourceHasItsOwn();
        wrongSourcesChangeNothing();
        Due.end();
    }

    private static void answersTheOldContent() {
        BuildGraph x = new BuildGraph();
        int[] contents = {7, -7, Integer.MIN_VALUE, Integer.MAX_VALUE, 0, -2, -2};
        int old = 0;
        for (int content : contents) {
            Due.due("content(3, " + content + ")", x.content(3, content), old);
            old = content;
        }
    }

    private static void eachSourceHasItsOwn() {
        BuildGraph x = new BuildGraph();
        for (int source = 0; source < 8; source++) {
            x.content(source, 100 + source);
        }
        for (int source = 0; source < 8; source++) {
            Due.taskOf(x, 0, 0, source);
            Due.due("fresh of source " + source, x.fresh(source), 100 + source);
            Due.due("content of source " + source, x.content(source, 0), 100 + source);
        }
    }

    private static void wrongSourcesChangeNothing() {
        BuildGraph x = new BuildGraph();
        Due.taskOf(x, 0, 0, 0, 7);
        x.build(0);
        for (int source : Due.outside(8)) {
            Due.due("content(" + source + ", 5)", x.content(source, 5), BuildGraph.BAD_SOURCE);
        }
        Due.due("stale after wrong sources", x.stale(), 0);
        for (int source = 0; source < 8; source++) {
            Due.due("content after wrong sources", x.content(source, 1), 0);
        }
    }
}
