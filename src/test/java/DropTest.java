/** Promise 9: drop. */
public final class DropTest {
    public static void main(String[] args) {
        itsBlocksAreFree();
        itsNumberIsFree();
        itWaitsNoMore();
        howManyBlocksItHad();
        noSuchFile();
        itHasLinks();
        Run.end();
    }

    /** Promise 9, "its blocks [...] are free": all 15, and when none was free before. */
    private static void itsBlocksAreFree() {
        Run run = new Run("Promise 9", "its blocks and its number are free (its blocks)");
        Runs.takeBlocks(run, 124);
        run.first(x -> x.make(1));
        run.refusedState(x -> x.write(10, 0, 1, 1));
        run.first(x -> x.links(3, -1));
        run.refusedState(x -> x.write(10, 0, 1, 1));
        run.due(15, x -> x.drop(3));
        run.due(15, x -> x.count(0));
        for (int i = 0; i < 15; i++) {
            int piece = i;
            run.first(x -> x.write(10, 1024 * piece, 1, 1));
            run.due(34 + piece, x -> x.block(10, piece));
        }
        run.due(0, x -> x.count(0));
    }

    /** Promise 9, "its number [is] free": and its record all 0. */
    private static void itsNumberIsFree() {
        Run run = new Run("Promise 9", "its blocks and its number are free (its number)");
        for (int i = 1; i <= 12; i++) {
            run.first(x -> x.make(0));
        }
        run.refusedState(x -> x.make(1));
        run.first(x -> x.drop(12));
        run.due(11, x -> x.count(1));
        run.due(0, x -> x.about(12, 0));
        run.due(12, x -> x.make(1));
        run.first(x -> x.drop(1));
        run.due(1, x -> x.link(59, 1));
        run.first(x -> x.links(1, -1));
        run.first(x -> x.drop(1));
        run.due(1, x -> x.make(1));
        run.due(0, x -> x.about(1, 2));

        Run last = new Run("Promise 9", "its blocks and its number are free (its number)");
        last.first(x -> x.make(0));
        last.first(x -> x.paint(1, 1000, 4000, 1));
        last.first(x -> x.drop(1));
        last.due(0, x -> x.count(1));
        last.dueBytes();
    }

    /** Promise 9, "it waits no more": the first, the last, one between them, and the only one. */
    private static void itWaitsNoMore() {
        for (int i = 1; i <= 4; i++) {
            int file = i;
            Run run = new Run("Promise 9", "it waits no more");
            for (int k = 1; k <= 4; k++) {
                run.first(x -> x.make(0));
            }
            run.due(0, x -> x.drop(file));
            run.due(3, x -> x.count(2));
            run.due(file == 4 ? 3 : 4, x -> x.count(3));
            for (int k = 2; k <= 4; k++) {
                int other = k;
                int behind = other - 1 == file ? other - 2 : other - 1;
                run.due(other == file ? 0 : behind, x -> x.about(other, 5));
            }
            run.due(3, FileBody::finish);
        }
        Run only = new Run("Promise 9", "it waits no more");
        only.first(x -> x.make(0));
        only.first(x -> x.drop(1));
        only.due(0, x -> x.count(2));
        only.due(0, x -> x.count(3));
        only.due(0, FileBody::finish);
    }

    /** Promise 9, "how many blocks it had": none, as a short target; one; and 15. */
    private static void howManyBlocksItHad() {
        Run run = new Run("Promise 9", "how many blocks it had");
        run.first(x -> x.make(0));
        run.due(0, x -> x.drop(1));
        run.first(x -> x.make(0));
        run.first(x -> x.cut(1, 15360));
        run.due(0, x -> x.drop(1));
        run.first(x -> x.make(0));
        run.first(x -> x.write(1, 15359, 1, 1));
        run.due(1, x -> x.drop(1));
        run.first(x -> x.link(59, 3));
        run.first(x -> x.link(60, 3));
        run.first(x -> x.links(1, -1));
        run.first(x -> x.links(2, -1));
        run.due(0, x -> x.drop(1));
        run.due(123, x -> x.count(0));
        run.due(1, x -> x.drop(2));
        run.due(124, x -> x.count(0));
        run.first(x -> x.make(0));
        for (int at : new int[] {0, 4000, 8000, 11360}) {
            run.first(x -> x.paint(1, at, 4000, 1));
        }
        run.due(15, x -> x.drop(1));
        run.due(124, x -> x.count(0));
    }

    /** Promise 9, "there is no such file": also one that has gone. */
    private static void noSuchFile() {
        Run run = new Run("Promise 9", "IllegalArgumentException: there is no such file");
        run.first(x -> x.make(0));
        run.first(x -> x.make(0));
        for (int file : Runs.noFiles()) {
            run.refusedArgument(x -> x.drop(file));
        }
        run.refusedArgument(x -> x.drop(3));
        run.refusedArgument(x -> x.drop(12));
        run.due(0, x -> x.drop(1));
        run.refusedArgument(x -> x.drop(1));
        run.due(0, x -> x.drop(2));
        run.refusedArgument(x -> x.drop(2));
    }

    /** Promise 9, "it has links": one, 256 (a low byte of 0), 1000; and a link has one. */
    private static void itHasLinks() {
        Run run = new Run("Promise 9", "IllegalStateException: it has links");
        run.first(x -> x.make(1));
        run.first(x -> x.make(256));
        run.first(x -> x.make(1000));
        run.first(x -> x.link(59, 1));
        run.first(x -> x.link(60, 1));
        run.first(x -> x.paint(1, 0, 4000, 1));
        for (int i = 1; i <= 5; i++) {
            int file = i;
            run.refusedState(x -> x.drop(file));
        }
        run.first(x -> x.links(1, -1));
        run.first(x -> x.links(1, 1));
        run.refusedState(x -> x.drop(1));
        run.first(x -> x.links(1, -1));
        run.due(4, x -> x.drop(1));
    }
}
