/** Promise 5: paint. */
public final class PaintTest {
    private static final int MIN = Integer.MIN_VALUE;
    private static final int MAX = Integer.MAX_VALUE;

    public static void main(String[] args) {
        bytes();
        edgesOfBytes();
        overOtherBytes();
        piecesThatHaveNoneGetABlock();
        allOf0s();
        theSize();
        noSuchPlainFile();
        nIsNot1To4000();
        thePlaceIsBelow0();
        moreThan15360();
        fewerBlocksAreFree();
        Run.end();
    }

    /** Promise 5, "byte i is (seed + 7 i) modulo 256": over the edges of pieces. */
    private static void bytes() {
        for (int seed : new int[] {0, 1, 255, 256, -1, -250, MAX, MAX - 100, MIN}) {
            for (int at : new int[] {0, 1, 1000, 1023, 1024, 11360}) {
                for (int n : new int[] {1, 24, 25, 1024, 1025, 4000}) {
                    Run run = new Run("Promise 5", "byte i is (seed + 7 i) modulo 256: paint(1, "
                            + at + ", " + n + ", " + seed + ")");
                    run.first(x -> x.make(1));
                    run.due(at + n, x -> x.paint(1, at, n, seed));
                    int[] body = new int[at + n];
                    Runs.pattern(body, at, n, seed);
                    run.dueBody(1, body);
                }
            }
        }
    }

    /** Promise 5, "byte i is (seed + 7 i) modulo 256": sums above 255, below 0, and that wrap. */
    private static void edgesOfBytes() {
        Run run = new Run("Promise 5", "byte i is (seed + 7 i) modulo 256");
        run.first(x -> x.make(1));
        run.first(x -> x.paint(1, 0, 3, 242));
        run.dueBody(1, new int[] {242, 249, 0});
        run.first(x -> x.paint(1, 0, 3, -8));
        run.dueBody(1, new int[] {248, 255, 6});
        run.first(x -> x.paint(1, 0, 3, MAX - 7));
        run.dueBody(1, new int[] {248, 255, 6});
        run.first(x -> x.paint(1, 0, 3, MIN));
        run.dueBody(1, new int[] {0, 7, 14});
    }

    private static void overOtherBytes() {
        Run run = new Run("paint over other bytes changes no more than these");
        run.first(x -> x.make(1));
        run.due(4000, x -> x.paint(1, 0, 4000, 3));
        run.due(4000, x -> x.paint(1, 1000, 1100, 9));
        run.due(7500, x -> x.paint(1, 3500, 4000, 100));
        int[] body = new int[7500];
        Runs.pattern(body, 0, 4000, 3);
        Runs.pattern(body, 1000, 1100, 9);
        Runs.pattern(body, 3500, 4000, 100);
        run.dueBody(1, body);
    }

    /** Promise 5, "Likewise": of promise 4, "pieces that have none get a block". */
    private static void piecesThatHaveNoneGetABlock() {
        Run run = new Run("Promise 5", "Likewise (pieces that have none get a block)");
        run.first(x -> x.make(1));
        run.first(x -> x.make(0));
        run.due(5000, x -> x.paint(1, 1023, 3977, 0));
        run.due(5, x -> x.about(1, 3));
        for (int i = 0; i < 5; i++) {
            int piece = i;
            run.due(4 + piece, x -> x.block(1, piece));
        }
        run.due(6144, x -> x.paint(2, 6143, 1, 0));
        run.due(9, x -> x.block(2, 5));
        run.due(6144, x -> x.paint(2, 4096, 2048, 0));
        run.due(10, x -> x.block(2, 4));
        run.due(2, x -> x.about(2, 3));
    }

    /** Promise 5, "Likewise": of promise 4, "a block, all of 0s". */
    private static void allOf0s() {
        Run run = new Run("Promise 5", "Likewise (a block, all of 0s)");
        run.first(x -> x.make(0));
        run.first(x -> x.paint(1, 0, 2048, 1));
        run.first(x -> x.drop(1));
        run.first(x -> x.make(1));
        run.first(x -> x.paint(1, 1000, 100, 9));
        run.first(x -> x.cut(1, 2048));
        int[] body = new int[2048];
        Runs.pattern(body, 1000, 100, 9);
        run.dueBody(1, body);
    }

    /** Promise 5, "Likewise": of promise 4, ": the size". */
    private static void theSize() {
        Run run = new Run("Promise 5", "Likewise (the size)");
        run.first(x -> x.make(1));
        run.due(4000, x -> x.paint(1, 0, 4000, 1));
        run.due(4000, x -> x.paint(1, 3999, 1, 1));
        run.due(4001, x -> x.paint(1, 1, 4000, 1));
        run.due(15360, x -> x.paint(1, 11360, 4000, 1));
        run.due(15360, x -> x.paint(1, 0, 1, 1));
        run.due(15360, x -> x.about(1, 2));
    }

    /** Promise 5, "Likewise": of promise 4, "there is no such plain file". */
    private static void noSuchPlainFile() {
        Run run = new Run("Promise 5", "Likewise (there is no such plain file)");
        run.first(x -> x.make(1));
        run.first(x -> x.link(100, 1));
        run.first(x -> x.link(10, 1));
        run.first(x -> x.make(0));
        run.first(x -> x.drop(4));
        for (int file : Runs.noFiles()) {
            run.refusedArgument(x -> x.paint(file, 0, 1, 1));
        }
        for (int file : new int[] {2, 3, 4, 5, 12}) {
            run.refusedArgument(x -> x.paint(file, 0, 1, 1));
        }
        run.due(1, x -> x.paint(1, 0, 1, 1));
    }

    /** Promise 5, "n bytes (1 .. 4000)". */
    private static void nIsNot1To4000() {
        Run run = new Run("Promise 5", "Likewise n bytes (1 .. 4000)");
        run.first(x -> x.make(1));
        for (int n : new int[] {0, -1, -4000, 4001, 4096, MIN, MAX}) {
            run.refusedArgument(x -> x.paint(1, 0, n, 1));
            run.refusedArgument(x -> x.paint(1, 5000, n, 1));
        }
        run.due(1, x -> x.paint(1, 0, 1, 1));
        run.due(4000, x -> x.paint(1, 0, 4000, 1));
    }

    /** Promise 5, "Likewise": of promise 4, "the place is below 0". */
    private static void thePlaceIsBelow0() {
        Run run = new Run("Promise 5", "Likewise (the place is below 0)");
        run.first(x -> x.make(1));
        run.first(x -> x.paint(1, 0, 100, 1));
        for (int at : new int[] {-1, -3999, -4000, -4001, MIN, MIN + 1}) {
            run.refusedArgument(x -> x.paint(1, at, 1, 1));
            run.refusedArgument(x -> x.paint(1, at, 4000, 1));
        }
        run.due(4000, x -> x.paint(1, 0, 4000, 1));
    }

    /** Promise 5, "Likewise": of promise 4, "or place and n are more than 15,360". */
    private static void moreThan15360() {
        Run run = new Run("Promise 5", "Likewise (or place and n are more than 15,360)");
        run.first(x -> x.make(1));
        run.refusedArgument(x -> x.paint(1, 15360, 1, 1));
        run.refusedArgument(x -> x.paint(1, 15359, 2, 1));
        run.refusedArgument(x -> x.paint(1, 11361, 4000, 1));
        run.refusedArgument(x -> x.paint(1, MAX, 1, 1));
        run.refusedArgument(x -> x.paint(1, MAX - 3999, 4000, 1));
        run.refusedArgument(x -> x.paint(1, MAX, 4000, 1));
        run.due(15360, x -> x.paint(1, 11360, 4000, 1));
        run.due(15360, x -> x.paint(1, 15359, 1, 1));
        run.refusedArgument(x -> x.paint(1, 11361, 4000, 1));
    }

    /** Promise 5, "Likewise": of promise 4, "fewer blocks are free than are wanted". */
    private static void fewerBlocksAreFree() {
        Run run = new Run("Promise 5", "Likewise (fewer blocks are free than are wanted)");
        Runs.takeBlocks(run, 121);
        run.first(x -> x.make(1));
        run.refusedState(x -> x.paint(10, 0, 4000, 1));
        run.refusedState(x -> x.paint(10, 0, 3073, 1));
        run.due(3072, x -> x.paint(10, 0, 3072, 1));
        run.due(0, x -> x.count(0));
        run.refusedState(x -> x.paint(10, 3071, 2, 1));
        run.refusedState(x -> x.paint(10, 3072, 1, 1));
        run.refusedState(x -> x.paint(10, 0, 3073, 9));
        run.due(3072, x -> x.paint(10, 1, 3071, 1));
    }
}
