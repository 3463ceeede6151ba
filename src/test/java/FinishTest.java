/** Promise 10: finish. */
public final class FinishTest {
    public static void main(String[] args) {
        someFilesWait();
        noneWaits();
        allWait();
        noBlockWasFree();
        Run.end();
    }

    /** Promise 10, "All files that wait go, as by drop()": and no others. */
    private static void someFilesWait() {
        Run run = new Run("Promise 10", "All files that wait go, as by drop()");
        run.first(x -> x.make(0));
        run.first(x -> x.make(1));
        run.first(x -> x.make(0));
        run.first(x -> x.link(60, 1));
        run.first(x -> x.link(59, 1));
        run.first(x -> x.paint(1, 0, 3000, 1));
        run.first(x -> x.paint(2, 0, 2000, 1));
        run.first(x -> x.links(4, -1));
        run.first(x -> x.links(5, -1));
        run.due(4, FileBody::finish);
        run.due(1, x -> x.count(1));
        run.due(0, x -> x.count(2));
        run.due(0, x -> x.count(3));
        run.due(122, x -> x.count(0));
        run.dueBytes("1:257=128", "1:260=208", "1:261=7", "1:282=1", "1:284=4", "1:296=8", "1:300=9");
        run.dueBody(2, Runs.painted(2000, 1));
        run.due(1, x -> x.make(1));
    }

    /** Promise 10, ": how many": 0, when none waits, and nothing changes then. */
    private static void noneWaits() {
        Run run = new Run("Promise 10", "one behind the other: how many (none)");
        run.due(0, FileBody::finish);
        run.first(x -> x.make(1));
        run.first(x -> x.write(1, 0, 7, 1));
        run.due(0, FileBody::finish);
        run.due(1, x -> x.count(1));
        run.due(7, x -> x.read(1, 0));
        run.first(x -> x.links(1, -1));
        run.due(1, FileBody::finish);
        run.due(0, FileBody::finish);
        run.dueBytes();
    }

    /** Promise 10, ": how many": 12, when all are there and wait. */
    private static void allWait() {
        Run run = new Run("Promise 10", "one behind the other: how many (all)");
        for (int i = 1; i <= 12; i++) {
            int file = i;
            run.first(x -> x.make(0));
            run.first(x -> x.paint(file, 0, 4000, 1));
        }
        run.due(76, x -> x.count(0));
        run.due(12, FileBody::finish);
        run.due(124, x -> x.count(0));
        run.due(0, x -> x.count(1));
        run.dueBytes();
        run.due(1, x -> x.make(1));
    }

    /** Promise 10, "as by drop()": blocks are free then, when none was before. */
    private static void noBlockWasFree() {
        Run run = new Run("Promise 10", "as by drop()");
        Runs.takeBlocks(run, 124);
        for (int i = 1; i <= 9; i++) {
            int file = i;
            run.first(x -> x.links(file, -1));
        }
        run.due(9, FileBody::finish);
        run.due(124, x -> x.count(0));
        run.dueBytes();
    }
}
