/** Promise 4: write, and how blocks are taken. */
public final class WriteTest {
    public static void main(String[] args) {
        order();
        sizes();
        goals();
        goalFromTheEnd();
        zeroesInUsedBlocks();
        overTwoPieces();
        fewBlocks();
        wrongInputs();
        Run.end();
    }

    private static void order() {
        for (int i = 1; i <= 8; i++) {
            int n = i;
            Run run = new Run("write of " + n + " bytes");
            run.first(x -> x.make(1));
            run.due(3 + n, x -> x.write(1, 3, 0xF1E2D3C4B5A69788L, n));
            int[] all = {0xF1, 0xE2, 0xD3, 0xC4, 0xB5, 0xA6, 0x97, 0x88};
            int[] body = new int[3 + n];
            System.arraycopy(all, 8 - n, body, 3, n);
            run.dueBody(1, body);
        }
    }

    private static void sizes() {
        Run run = new Run("the size after write");
        run.first(x -> x.make(1));
        run.due(102, x -> x.write(1, 100, 1, 2));
        run.due(102, x -> x.write(1, 10, 1, 8));
        run.due(102, x -> x.write(1, 94, -1, 8));
        run.due(103, x -> x.write(1, 95, -1, 8));
        run.due(15360, x -> x.write(1, 15352, 1, 8));
        run.due(15360, x -> x.write(1, 15359, 7, 1));
        run.due(7, x -> x.read(1, 15359));
        run.due(15360, x -> x.write(1, 0, 1, 1));
        run.dueBytes("1:1=128", "1:5=60", "1:26=1", "1:28=4", "1:40=4", "1:96=5");
    }

    private static void goals() {
        Run run = new Run("goals");
        run.first(x -> x.make(1));
        run.first(x -> x.make(1));
        run.first(x -> x.write(1, 0, 1, 1));
        run.first(x -> x.write(2, 0, 1, 1));
        run.first(x -> x.write(1, 1024, 1, 1));
        run.first(x -> x.write(2, 1024, 1, 1));
        run.due(4, x -> x.block(1, 0));
        run.due(5, x -> x.block(2, 0));
        run.due(6, x -> x.block(1, 1));
        run.due(7, x -> x.block(2, 1));
        run.first(x -> x.cut(1, 0));
        run.first(x -> x.write(2, 2048, 1, 1));
        run.due(8, x -> x.block(2, 2));
        run.first(x -> x.write(2, 4096, 1, 1));
        run.due(4, x -> x.block(2, 4));
        run.first(x -> x.write(2, 3072, 1, 1));
        run.due(9, x -> x.block(2, 3));
        run.first(x -> x.write(1, 1024, 1, 1));
        run.due(6, x -> x.block(1, 1));
        run.first(x -> x.write(1, 0, 1, 1));
        run.due(10, x -> x.block(1, 0));
        run.due(117, x -> x.count(0));
    }

    private static void goalFromTheEnd() {
        Run run = new Run("no block is free from the goal on");
        Runs.takeBlocks(run, 124);
        run.due(127, x -> x.block(9, 3));
        run.first(x -> x.cut(1, 14 * 1024));
        run.first(x -> x.cut(2, 10 * 1024));
        run.first(x -> x.write(9, 4 * 1024, 1, 1));
        run.due(18, x -> x.block(9, 4));
        run.first(x -> x.write(9, 5 * 1024, 1, 1));
        run.due(29, x -> x.block(9, 5));
    }

    private static void zeroesInUsedBlocks() {
        Run run = new Run("a block that was used is all of 0s");
        run.first(x -> x.make(0));
        run.first(x -> x.paint(1, 0, 1024, 1));
        run.first(x -> x.drop(1));
        run.first(x -> x.make(1));
        run.first(x -> x.write(1, 500, 255, 1));
        run.first(x -> x.cut(1, 1024));
        run.due(4, x -> x.block(1, 0));
        int[] body = new int[1024];
        body[500] = 255;
        run.dueBody(1, body);
    }

    private static void overTwoPieces() {
        Run run = new Run("write over two pieces");
        run.first(x -> x.make(1));
        run.due(1028, x -> x.write(1, 1020, 0x0102030405060708L, 8));
        int[] body = new int[1028];
        for (int i = 0; i < 8; i++) {
            body[1020 + i] = 1 + i;
        }
        run.dueBody(1, body);
        run.due(2, x -> x.about(1, 3));
        run.due(4, x -> x.block(1, 0));
        run.due(5, x -> x.block(1, 1));
        run.due(2048, x -> x.write(1, 2040, 1, 8));
        run.due(2, x -> x.about(1, 3));
    }

    private static void fewBlocks() {
        Run run = new Run("write with few blocks free");
        Runs.takeBlocks(run, 123);
        run.first(x -> x.make(1));
        run.refusedState(x -> x.write(10, 1020, 1, 8));
        run.due(1024, x -> x.write(10, 1016, 1, 8));
        run.refusedState(x -> x.write(10, 1024, 1, 1));
        run.refusedState(x -> x.write(10, 1023, 1, 2));
        run.refusedArgument(x -> x.write(10, 15359, 1, 2));
        run.refusedArgument(x -> x.write(10, 1024, 1, 9));
        run.refusedArgument(x -> x.write(11, 0, 1, 1));
        run.due(1024, x -> x.write(10, 0, 1, 8));
    }

    private static void wrongInputs() {
        Run run = new Run("wrong inputs of write");
        run.first(x -> x.make(0));
        run.first(x -> x.link(100, 1));
        run.first(x -> x.link(10, 1));
        run.first(x -> x.write(1, 0, 1, 1));
        for (int i : new int[] {0, -1, 2, 3, 4, 12, 13, Integer.MIN_VALUE, Integer.MAX_VALUE}) {
            run.refusedArgument(x -> x.write(i, 0, 1, 1));
        }
        for (int n : new int[] {0, -1, 9, Integer.MIN_VALUE, Integer.MAX_VALUE}) {
            run.refusedArgument(x -> x.write(1, 0, 1, n));
        }
        run.refusedArgument(x -> x.write(1, -1, 1, 1));
        run.refusedArgument(x -> x.write(1, -1, 1, 8));
        run.refusedArgument(x -> x.write(1, 15360, 1, 1));
        run.refusedArgument(x -> x.write(1, 15353, 1, 8));
        run.refusedArgument(x -> x.write(1, Integer.MAX_VALUE, 1, 8));
        run.refusedArgument(x -> x.write(1, Integer.MIN_VALUE, 1, 8));
    }
}
