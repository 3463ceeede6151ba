/**
 * Terms, "a call that throws changes nothing": each reason that a call has to throw, on a volume
 * where there is much to change. Run looks at all after each call, bytes behind sizes and the
 * blocks that later calls get among it.
 */
public final class ThrowingCallsTest {
    private static final String SENTENCE = "a call that throws changes nothing";

    public static void main(String[] args) {
        wrongFiles();
        wrongNumbers();
        allAreThere();
        noBlockIsFree();
        oneBlockIsFree();
        Run.end();
    }

    /** Plain files with and without links, links of both sorts, a list of two, gaps, free blocks. */
    private static Run busy(String what) {
        Run run = new Run("Terms", SENTENCE + " (" + what + ")");
        run.first(x -> x.make(3));
        run.first(x -> x.link(59, 7));
        run.first(x -> x.link(60, 7));
        run.first(x -> x.make(0));
        run.first(x -> x.make(0));
        run.first(x -> x.make(0));
        run.first(x -> x.paint(1, 500, 3000, 11));
        run.first(x -> x.paint(4, 3000, 2000, 12));
        run.first(x -> x.paint(6, 0, 100, 13));
        run.first(x -> x.cut(1, 3200));
        run.first(x -> x.cut(4, 10000));
        run.first(x -> x.drop(5));
        return run;
    }

    private static void wrongFiles() {
        Run run = busy("no such file");
        for (int file : new int[] {-1, 0, 5, 7, 12, 13}) {
            run.refusedArgument(x -> x.write(file, 1020, -1, 8));
            run.refusedArgument(x -> x.paint(file, 1000, 4000, 1));
            run.refusedArgument(x -> x.read(file, 0));
            run.refusedArgument(x -> x.cut(file, 100));
            run.refusedArgument(x -> x.links(file, 1));
            run.refusedArgument(x -> x.drop(file));
            run.refusedArgument(x -> x.block(file, 0));
        }
        run.refusedArgument(x -> x.about(0, 0));
        run.refusedArgument(x -> x.about(13, 0));

        Run links = busy("no such plain file");
        for (int file : new int[] {2, 3}) {
            links.refusedArgument(x -> x.write(file, 0, -1, 8));
            links.refusedArgument(x -> x.paint(file, 0, 4000, 1));
            links.refusedArgument(x -> x.cut(file, 0));
            links.refusedArgument(x -> x.cut(file, 10));
            links.refusedArgument(x -> x.cut(file, 15360));
        }
    }

    private static void wrongNumbers() {
        Run run = busy("wrong numbers");
        run.refusedArgument(x -> x.make(-1));
        run.refusedArgument(x -> x.make(1001));
        run.refusedArgument(x -> x.link(0, 1));
        run.refusedArgument(x -> x.link(1001, 1));
        run.refusedArgument(x -> x.write(1, 5000, -1, 0));
        run.refusedArgument(x -> x.write(1, 5000, -1, 9));
        run.refusedArgument(x -> x.write(1, -1, -1, 8));
        run.refusedArgument(x -> x.write(1, 15353, -1, 8));
        run.refusedArgument(x -> x.paint(1, 5000, 0, 1));
        run.refusedArgument(x -> x.paint(1, 5000, 4001, 1));
        run.refusedArgument(x -> x.paint(1, -1, 4000, 1));
        run.refusedArgument(x -> x.paint(1, 11361, 4000, 1));
        run.refusedIndex(x -> x.read(1, -1));
        run.refusedIndex(x -> x.read(1, 3200));
        run.refusedArgument(x -> x.cut(1, -1));
        run.refusedArgument(x -> x.cut(1, 15361));
        run.refusedArgument(x -> x.links(1, -4));
        run.refusedArgument(x -> x.links(1, 998));
        run.refusedArgument(x -> x.links(4, -1));
        run.refusedArgument(x -> x.links(4, 1001));
        run.refusedState(x -> x.drop(1));
        run.refusedState(x -> x.drop(2));
        run.refusedState(x -> x.drop(3));
        run.refusedArgument(x -> x.about(1, -1));
        run.refusedArgument(x -> x.about(1, 6));
        run.refusedArgument(x -> x.block(1, -1));
        run.refusedArgument(x -> x.block(1, 15));
        run.refusedArgument(x -> x.count(-1));
        run.refusedArgument(x -> x.count(4));
        run.refusedIndex(x -> x.byteOf(4, 0));
        run.refusedIndex(x -> x.byteOf(0, 1024));
    }

    private static void allAreThere() {
        Run run = busy("all are there");
        for (int file : new int[] {5, 7, 8, 9, 10, 11, 12}) {
            run.due(file, x -> x.make(file % 2));
        }
        run.refusedState(x -> x.make(0));
        run.refusedState(x -> x.make(1));
        run.refusedState(x -> x.link(59, 1));
        run.refusedState(x -> x.link(60, 1));
    }

    private static void noBlockIsFree() {
        Run run = new Run("Terms", SENTENCE + " (no block is free)");
        Runs.takeBlocks(run, 124);
        run.first(x -> x.make(0));
        run.refusedState(x -> x.link(60, 1));
        run.refusedState(x -> x.write(10, 5, -1, 8));
        run.refusedState(x -> x.paint(10, 5, 4000, 1));
        run.refusedState(x -> x.write(9, 4 * 1024 - 4, -1, 8));
        run.refusedState(x -> x.paint(9, 100, 4000, 1));
    }

    /** More than that one is wanted, and some of the pieces have a block already. */
    private static void oneBlockIsFree() {
        Run run = new Run("Terms", SENTENCE + " (one block is free)");
        Runs.takeBlocks(run, 123);
        run.first(x -> x.make(0));
        run.refusedState(x -> x.write(10, 1020, -1, 8));
        run.refusedState(x -> x.paint(10, 0, 1025, 1));
        run.refusedState(x -> x.paint(9, 2048, 2049, 1));
        run.due(4096, x -> x.paint(9, 2048, 2048, 1));
        run.refusedState(x -> x.write(9, 4092, -1, 8));
    }
}
