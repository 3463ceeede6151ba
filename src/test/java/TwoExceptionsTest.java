/**
 * Terms, "Of two exceptions the one that a call names first is thrown": each call that names two,
 * in states and with inputs that ask for both.
 */
public final class TwoExceptionsTest {
    private static final String SENTENCE =
            "Of two exceptions the one that a call names first is thrown";

    public static void main(String[] args) {
        make();
        linkWhenAllAreThere();
        linkWhenNoBlockIsFree();
        writeAndPaint();
        read();
        drop();
        Run.end();
    }

    /** Of make (promise 2): wrong links, and all are there. */
    private static void make() {
        Run run = new Run("Terms", SENTENCE + " (make)");
        Runs.makeFiles(run, 12);
        run.refusedArgument(x -> x.make(-1));
        run.refusedArgument(x -> x.make(1001));
        run.refusedState(x -> x.make(0));
        run.refusedState(x -> x.make(1000));
    }

    /** Of link (promise 3): a wrong n, and all are there. */
    private static void linkWhenAllAreThere() {
        Run run = new Run("Terms", SENTENCE + " (link, all are there)");
        Runs.makeFiles(run, 12);
        run.refusedArgument(x -> x.link(0, 1));
        run.refusedArgument(x -> x.link(1001, 1));
        run.refusedState(x -> x.link(1, 1));
        run.refusedState(x -> x.link(1000, 1));
    }

    /** Of link (promise 3): a wrong n, and a block is wanted and none is free. */
    private static void linkWhenNoBlockIsFree() {
        Run run = new Run("Terms", SENTENCE + " (link, none is free)");
        Runs.takeBlocks(run, 124);
        run.refusedArgument(x -> x.link(0, 1));
        run.refusedArgument(x -> x.link(1001, 1));
        run.refusedState(x -> x.link(1000, 1));
    }

    /** Of write and paint (promises 4 and 5): each wrong input, and no block is free. */
    private static void writeAndPaint() {
        Run run = new Run("Terms", SENTENCE + " (write, paint)");
        Runs.takeBlocks(run, 122);
        run.first(x -> x.make(1));
        run.first(x -> x.link(60, 1));
        run.first(x -> x.write(10, 0, 1, 1));
        run.due(0, x -> x.count(0));
        for (int file : new int[] {0, 11, 12, 13}) {
            run.refusedArgument(x -> x.write(file, 1024, 1, 1));
            run.refusedArgument(x -> x.paint(file, 1024, 1, 1));
        }
        for (int n : new int[] {0, 4001}) {
            run.refusedArgument(x -> x.write(10, 1024, 1, n));
            run.refusedArgument(x -> x.paint(10, 1024, n, 1));
        }
        run.refusedArgument(x -> x.write(10, 1020, 1, 9));
        for (int at : new int[] {-1, 15358, 15360, Integer.MAX_VALUE}) {
            run.refusedArgument(x -> x.write(10, at, 1, 8));
            run.refusedArgument(x -> x.paint(10, at, 8, 1));
        }
        run.refusedState(x -> x.write(10, 15352, 1, 8));
        run.refusedState(x -> x.paint(10, 15352, 8, 1));
    }

    /** Of read (promise 6): no such file, and an i that no file has. */
    private static void read() {
        Run run = new Run("Terms", SENTENCE + " (read)");
        run.first(x -> x.make(1));
        for (int i : new int[] {-1, 15360, Integer.MIN_VALUE, Integer.MAX_VALUE}) {
            for (int file : Runs.noFiles()) {
                run.refusedArgument(x -> x.read(file, i));
            }
            run.refusedArgument(x -> x.read(2, i));
            run.refusedIndex(x -> x.read(1, i));
        }
    }

    /** Of drop (promise 9): one that is not there is named before one that has links. */
    private static void drop() {
        Run run = new Run("Terms", SENTENCE + " (drop)");
        run.first(x -> x.make(1));
        run.refusedArgument(x -> x.drop(2));
        run.refusedArgument(x -> x.drop(0));
        run.refusedArgument(x -> x.drop(13));
        run.refusedState(x -> x.drop(1));
    }
}
