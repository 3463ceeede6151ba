/** Promise 13: count. */
public final class CountTest {
    public static void main(String[] args) {
        ordinary();
        howManyBlocksAreFree();
        howManyFilesAreThere();
        howManyWait();
        theFirstOneThatWaits();
        noSuchNumber();
        Run.end();
    }

    private static void ordinary() {
        Run run = new Run("count");
        dueAll(run, 124, 0, 0, 0);
        run.first(x -> x.make(1));
        run.first(x -> x.make(0));
        dueAll(run, 124, 2, 1, 2);
        run.first(x -> x.link(59, 1));
        run.first(x -> x.link(60, 1));
        dueAll(run, 123, 4, 1, 2);
        run.first(x -> x.paint(1, 0, 4000, 1));
        run.first(x -> x.links(4, -1));
        dueAll(run, 119, 4, 2, 4);
        run.first(x -> x.links(2, 1));
        dueAll(run, 119, 4, 1, 4);
        run.first(x -> x.cut(1, 1024));
        run.first(x -> x.drop(4));
        dueAll(run, 123, 3, 0, 0);
    }

    private static void dueAll(Run run, int... want) {
        for (int i = 0; i < want.length; i++) {
            int what = i;
            run.due(want[what], x -> x.count(what));
        }
    }

    /** Promise 13, "0 how many blocks are free": from all, 124, to none, and back. */
    private static void howManyBlocksAreFree() {
        Run run = new Run("Promise 13", "0 how many blocks are free");
        run.due(124, x -> x.count(0));
        Runs.takeBlocks(run, 124);
        run.due(0, x -> x.count(0));
        for (int i = 1; i <= 9; i++) {
            int file = i;
            run.first(x -> x.cut(file, 0));
            run.due(Math.min(15 * file, 124), x -> x.count(0));
        }
    }

    /** Promise 13, "1 how many files are there": from none to all, and back. */
    private static void howManyFilesAreThere() {
        Run run = new Run("Promise 13", "1 how many files are there");
        run.due(0, x -> x.count(1));
        for (int i = 1; i <= 12; i++) {
            int there = i;
            run.first(x -> there % 2 == 0 ? x.make(there % 4) : x.link(there, 0));
            run.due(there, x -> x.count(1));
        }
        run.due(3, FileBody::finish);
        run.due(9, x -> x.count(1));
    }

    /** Promise 13, "2 how many wait": from none to all, and back. */
    private static void howManyWait() {
        Run run = new Run("Promise 13", "2 how many wait");
        run.due(0, x -> x.count(2));
        for (int i = 1; i <= 12; i++) {
            int waiting = i;
            run.first(x -> x.make(0));
            run.due(waiting, x -> x.count(2));
        }
        for (int i = 1; i <= 12; i++) {
            int file = i;
            run.first(x -> x.links(file, 1));
            run.due(12 - file, x -> x.count(2));
        }
    }

    /** Promise 13, "3 the first one that waits (0 for none)". */
    private static void theFirstOneThatWaits() {
        Run run = new Run("Promise 13", "3 the first one that waits (0 for none)");
        run.due(0, x -> x.count(3));
        run.first(x -> x.make(1));
        run.due(0, x -> x.count(3));
        for (int i = 2; i <= 12; i++) {
            int file = i;
            run.first(x -> x.make(0));
            run.due(file, x -> x.count(3));
        }
        run.first(x -> x.links(1, -1));
        run.due(1, x -> x.count(3));
        run.first(x -> x.drop(1));
        run.due(12, x -> x.count(3));
        run.first(FileBody::finish);
        run.due(0, x -> x.count(3));
    }

    /** Promise 13, "no such number". */
    private static void noSuchNumber() {
        Run run = new Run("Promise 13", "IllegalArgumentException: no such number");
        run.first(x -> x.make(0));
        for (int what : new int[] {-1, 4, 5, Integer.MIN_VALUE, Integer.MAX_VALUE}) {
            run.refusedArgument(x -> x.count(what));
        }
        run.due(124, x -> x.count(0));
        run.due(1, x -> x.count(3));
    }
}
