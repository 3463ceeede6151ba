/** Promise 4: write. */
public final class WriteTest {
    private static final int MIN = Integer.MIN_VALUE;
    private static final int MAX = Integer.MAX_VALUE;

    public static void main(String[] args) {
        highestOfTheLowestFirst();
        overOtherBytes();
        piecesThatHaveNoneGetABlock();
        allOf0s();
        theSize();
        noSuchPlainFile();
        nIsNot1To8();
        thePlaceIsBelow0();
        moreThan15360();
        fewerBlocksAreFree();
        Run.end();
    }

    /** Promise 4, "the highest of the lowest n bytes first": for each n of 1 .. 8. */
    private static void highestOfTheLowestFirst() {
        int[] all = {0xF1, 0xE2, 0xD3, 0xC4, 0xB5, 0xA6, 0x97, 0x88};
        for (int i = 1; i <= 8; i++) {
            int n = i;
            Run run = new Run("Promise 4", "the highest of the lowest n bytes first");
            run.first(x -> x.make(1));
            run.due(3 + n, x -> x.write(1, 3, 0xF1E2D3C4B5A69788L, n));
            int[] body = new int[3 + n];
            System.arraycopy(all, 8 - n, body, 3, n);
            run.dueBody(1, body);
        }
        Run edges = new Run("Promise 4", "the highest of the lowest n bytes first");
        edges.first(x -> x.make(1));
        edges.first(x -> x.write(1, 0, Long.MIN_VALUE, 8));
        edges.dueBody(1, new int[] {128, 0, 0, 0, 0, 0, 0, 0});
        edges.first(x -> x.write(1, 0, Long.MAX_VALUE, 8));
        edges.dueBody(1, new int[] {127, 255, 255, 255, 255, 255, 255, 255});
        edges.first(x -> x.write(1, 1, Long.MIN_VALUE, 7));
        edges.dueBody(1, new int[] {127, 0, 0, 0, 0, 0, 0, 0});
        edges.first(x -> x.write(1, 7, -1, 1));
        edges.dueBody(1, new int[] {127, 0, 0, 0, 0, 0, 0, 255});
    }

    private static void overOtherBytes() {
        Run run = new Run("write over other bytes changes no more than these");
        run.first(x -> x.make(1));
        run.first(x -> x.make(1));
        run.first(x -> x.paint(1, 0, 3000, 1));
        run.first(x -> x.paint(2, 0, 3000, 1));
        run.due(3000, x -> x.write(1, 1020, 0x0102030405060708L, 8));
        int[] body = Runs.painted(3000, 1);
        run.dueBody(2, body);
        for (int i = 0; i < 8; i++) {
            body[1020 + i] = 1 + i;
        }
        run.dueBody(1, body);
    }

    /** Promise 4, "pieces that have none get a block": each that is touched, and no other. */
    private static void piecesThatHaveNoneGetABlock() {
        Run run = new Run("Promise 4", "pieces that have none get a block");
        run.first(x -> x.make(1));
        run.due(2048, x -> x.write(1, 2040, 1, 8));
        run.due(1, x -> x.about(1, 3));
        run.due(4, x -> x.block(1, 1));
        run.due(2049, x -> x.write(1, 2048, 1, 1));
        run.due(5, x -> x.block(1, 2));
        run.due(4103, x -> x.write(1, 4095, 1, 8));
        run.due(6, x -> x.block(1, 3));
        run.due(7, x -> x.block(1, 4));
        run.due(4103, x -> x.write(1, 1017, 1, 8));
        run.due(8, x -> x.block(1, 0));
        run.due(4, x -> x.block(1, 1));
        run.due(5, x -> x.about(1, 3));
        run.due(119, x -> x.count(0));
    }

    /** Promise 4, "a block, all of 0s": also where that block had other bytes before. */
    private static void allOf0s() {
        Run run = new Run("Promise 4", "pieces that have none get a block, all of 0s");
        run.first(x -> x.make(0));
        run.first(x -> x.paint(1, 0, 2048, 1));
        run.first(x -> x.drop(1));
        run.first(x -> x.make(1));
        run.first(x -> x.write(1, 1023, 0xABCD, 2));
        run.due(4, x -> x.block(1, 0));
        run.due(5, x -> x.block(1, 1));
        run.first(x -> x.cut(1, 2048));
        int[] body = new int[2048];
        body[1023] = 0xAB;
        body[1024] = 0xCD;
        run.dueBody(1, body);
    }

    /** Promise 4, ": the size": as it was, if the last byte is not behind it. */
    private static void theSize() {
        Run run = new Run("Promise 4", "all of 0s: the size");
        run.first(x -> x.make(1));
        run.due(102, x -> x.write(1, 100, 1, 2));
        run.due(102, x -> x.write(1, 10, 1, 8));
        run.due(102, x -> x.write(1, 94, -1, 8));
        run.due(103, x -> x.write(1, 95, -1, 8));
        run.due(104, x -> x.write(1, 103, -1, 1));
        run.due(15360, x -> x.write(1, 15352, 1, 8));
        run.due(15360, x -> x.write(1, 15359, 7, 1));
        run.due(15360, x -> x.write(1, 0, 1, 1));
        run.due(15360, x -> x.about(1, 2));
        run.dueBytes("1:1=128", "1:5=60", "1:26=1", "1:28=4", "1:40=4", "1:96=5");
    }

    /** Promise 4, "there is no such plain file". */
    private static void noSuchPlainFile() {
        Run run = new Run("Promise 4", "IllegalArgumentException: there is no such plain file");
        run.first(x -> x.make(0));
        run.first(x -> x.link(100, 1));
        run.first(x -> x.link(10, 1));
        run.first(x -> x.make(0));
        run.first(x -> x.drop(4));
        for (int file : Runs.noFiles()) {
            run.refusedArgument(x -> x.write(file, 0, 1, 1));
        }
        for (int file : new int[] {2, 3, 4, 5, 12}) {
            run.refusedArgument(x -> x.write(file, 0, 1, 1));
        }
        run.due(1, x -> x.write(1, 0, 1, 1));
    }

    /** Promise 4, "n is not 1 .. 8". */
    private static void nIsNot1To8() {
        Run run = new Run("Promise 4", "n is not 1 .. 8");
        run.first(x -> x.make(1));
        for (int n : new int[] {0, -1, -8, 9, 10, MIN, MAX}) {
            run.refusedArgument(x -> x.write(1, 0, -1, n));
            run.refusedArgument(x -> x.write(1, 5000, -1, n));
        }
        run.due(1, x -> x.write(1, 0, -1, 1));
        run.due(8, x -> x.write(1, 0, -1, 8));
    }

    /** Promise 4, "the place is below 0": also when all or some bytes would be from 0 on. */
    private static void thePlaceIsBelow0() {
        Run run = new Run("Promise 4", "the place is below 0");
        run.first(x -> x.make(1));
        run.first(x -> x.paint(1, 0, 100, 1));
        for (int at : new int[] {-1, -7, -8, -1024, MIN, MIN + 1}) {
            run.refusedArgument(x -> x.write(1, at, -1, 1));
            run.refusedArgument(x -> x.write(1, at, -1, 8));
        }
        run.due(100, x -> x.write(1, 0, -1, 8));
    }

    /** Promise 4, "or place and n are more than 15,360": also when their sum wraps. */
    private static void moreThan15360() {
        Run run = new Run("Promise 4", "or place and n are more than 15,360");
        run.first(x -> x.make(1));
        run.refusedArgument(x -> x.write(1, 15360, 1, 1));
        run.refusedArgument(x -> x.write(1, 15359, 1, 2));
        run.refusedArgument(x -> x.write(1, 15353, 1, 8));
        run.refusedArgument(x -> x.write(1, 16384, 1, 8));
        run.refusedArgument(x -> x.write(1, MAX, 1, 1));
        run.refusedArgument(x -> x.write(1, MAX - 7, 1, 8));
        run.refusedArgument(x -> x.write(1, MAX, 1, 8));
        run.due(15360, x -> x.write(1, 15352, 1, 8));
        run.due(15360, x -> x.write(1, 15359, 1, 1));
        run.refusedArgument(x -> x.write(1, 15353, 1, 8));
    }

    /** Promise 4, "fewer blocks are free than are wanted": none are wanted for pieces with one. */
    private static void fewerBlocksAreFree() {
        Run run = new Run("Promise 4", "fewer blocks are free than are wanted");
        Runs.takeBlocks(run, 123);
        run.first(x -> x.make(1));
        run.refusedState(x -> x.write(10, 1020, -1, 8));
        run.due(1024, x -> x.write(10, 1016, -1, 8));
        run.due(0, x -> x.count(0));
        run.refusedState(x -> x.write(10, 1024, -1, 1));
        run.refusedState(x -> x.write(10, 1023, -1, 2));
        run.refusedState(x -> x.write(10, 1017, 0, 8));
        run.due(1024, x -> x.write(10, 0, -1, 8));
        run.due(14337, x -> x.write(1, 1020, -1, 8));

        Run two = new Run("Promise 4", "fewer blocks are free than are wanted");
        Runs.takeBlocks(two, 122);
        two.first(x -> x.make(1));
        two.due(1028, x -> x.write(10, 1020, -1, 8));
        two.due(0, x -> x.count(0));
    }
}
