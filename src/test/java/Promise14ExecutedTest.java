/** Promise 14: executed counts the executed tasks of all builds since the start. */
public final class Promise14ExecutedTest {
    public static void main(String[] args) {
        BuildGraph x = new BuildGraph();
        Due.due("executed at the start", x.executed(), 0);
        Due.taskOf(x, 0, 0, 0);
        Due.taskOf(x, 0, 0, 8);
        x.task(0, 0);
        Due.due("executed before a build", x.executed(), 0);
        x.build(1);
        Due.due("executed after two", x.executed(), 2);
        x.build(1);
        Due.due("executed after up to date", x.executed(), 2);
        x.clean(0);
        x.build(1);
        Due.due("executed after from store", x.executed(), 2);
        x.build(2);
        Due.due("executed after three", x.executed(), 3);
        x.emptyStore();
        Due.due("executed after emptyStore", x.executed(), 3);
        x.clean(0);
        x.build(1);
        Due.due("executed after one more", x.executed(), 4);
        x.build(7);
        Due.due("executed after a wrong build", x.executed(), 4);
        Due.due("executed again", x.executed(), 4);
        Due.end();
    }
}
