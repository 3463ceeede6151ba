/** Promise 5: paint. */
public final class PaintTest {
    private static final int[] SEEDS = {
        0, 1, 255, 256, -1, -250, Integer.MAX_VALUE, Integer.MAX_VALUE - 100, Integer.MIN_VALUE};

    public static void main(String[] args) {
        bytes();
        overOtherBytes();
        sizesAndBlocks();
        fewBlocks();
        wrongInputs();
        Run.end();
    }

    private static void bytes() {
        for (int seed : SEEDS) {
            for (int at : new int[] {0, 1, 1000, 1023, 1024, 11360}) {
                for (int n : new int[] {1, 24, 25, 1024, 1025, 4000}) {
                    Run run = new Run("paint(1, " + at + ", " + n + ", " + seed + ")");
                    run.first(x -> x.make(1));
                    run.due(at + n, x -> x.paint(1, at, n, seed));
                    int[] body = new int[at + n];
                    Runs.pattern(body, at, n, seed);
                    run.dueBody(1, body);
                }
            }
        }
    }

    private static void overOtherBytes() {
        Run run = new Run("paint over other bytes");
        run.first(x -> x.make(1));
        run.due(4000, x -> x.paint(1, 0, 4000, 3));
        run.due(4000, x -> x.paint(1, 1000, 1100, 9));
        run.due(7500, x -> x.paint(1, 3500, 4000, 100));
        int[] body = new int[7500];
        Runs.pattern(body, 0, 4000, 3);
        Runs.pattern(body, 1000, 1100, 9);
        Runs.pattern(body, 3500, 4000, 100);
        run.dueBody(1, body);
    }

    private static void sizesAndBlocks() {
        Run run = new Run("blocks of paint");
        run.first(x -> x.make(1));
        run.first(x -> x.make(0));
        run.due(5000, x -> x.paint(1, 1023, 3977, 0));
        run.due(5, x -> x.about(1, 3));
        for (int i = 0; i < 5; i++) {
            int piece = i;
            run.due(4 + piece, x -> x.block(1, piece));
        }
        run.due(6144, x -> x.paint(2, 6143, 1, 0));
        run.due(9, x -> x.block(2, 5));
        run.due(6144, x -> x.paint(2, 4096, 2048, 0));
        run.due(10, x -> x.block(2, 4));
        run.due(2, x -> x.about(2, 3));
        run.due(15360, x -> x.paint(2, 11360, 4000, 0));
    }

    private static void fewBlocks() {
        Run run = new Run("paint with few blocks free");
        Runs.takeBlocks(run, 121);
        run.first(x -> x.make(1));
        run.refusedState(x -> x.paint(10, 0, 4000, 1));
        run.due(3072, x -> x.paint(10, 0, 3072, 1));
        run.refusedState(x -> x.paint(10, 3071, 2, 1));
        run.refusedState(x -> x.paint(10, 3072, 1, 1));
        run.refusedArgument(x -> x.paint(10, 3072, 4001, 1));
        run.refusedArgument(x -> x.paint(11, 3072, 1, 1));
        run.due(3072, x -> x.paint(10, 1, 3071, 1));
    }

    private static void wrongInputs() {
        Run run = new Run("wrong inputs of paint");
        run.first(x -> x.make(1));
        run.first(x -> x.link(100, 1));
        run.first(x -> x.link(10, 1));
        run.first(x -> x.paint(1, 0, 2000, 1));
        for (int i : new int[] {0, -1, 2, 3, 4, 12, 13, Integer.MIN_VALUE, Integer.MAX_VALUE}) {
            run.refusedArgument(x -> x.paint(i, 0, 1, 1));
        }
        for (int n : new int[] {0, -1, 4001, Integer.MIN_VALUE, Integer.MAX_VALUE}) {
            run.refusedArgument(x -> x.paint(1, 0, n, 1));
        }
        run.refusedArgument(x -> x.paint(1, -1, 1, 1));
        run.refusedArgument(x -> x.paint(1, -1, 4000, 1));
        run.refusedArgument(x -> x.paint(1, 15360, 1, 1));
        run.refusedArgument(x -> x.paint(1, 11361, 4000, 1));
        run.refusedArgument(x -> x.paint(1, Integer.MAX_VALUE, 4000, 1));
        run.refusedArgument(x -> x.paint(1, Integer.MIN_VALUE, 4000, 1));
    }
}
