/** Promise 3: link. */
public final class LinkTest {
    private static final int[] SEEDS = {
        0, 1, 253, 254, 255, -1, -3, -255, -256, Integer.MAX_VALUE, Integer.MAX_VALUE - 20,
        Integer.MIN_VALUE, Integer.MIN_VALUE + 7};

    public static void main(String[] args) {
        targets();
        inTheRecord();
        inABlock();
        allThere();
        noBlockFree();
        wrongLength();
        Run.end();
    }

    private static int[] target(int n, int seed) {
        int[] bytes = new int[n];
        for (int i = 0; i < n; i++) {
            long sum = (int) ((long) seed + i);
            bytes[i] = (int) (1 + ((sum % 255) + 255) % 255);
        }
        return bytes;
    }

    private static void targets() {
        for (int seed : SEEDS) {
            for (int n : new int[] {1, 2, 58, 59, 60, 61, 999, 1000}) {
                Run run = new Run("link(" + n + ", " + seed + ")");
                run.due(1, x -> x.link(n, seed));
                run.due(n, x -> x.about(1, 2));
                run.dueBody(1, target(n, seed));
            }
        }
    }

    private static void inTheRecord() {
        Run run = new Run("a target of 59 bytes");
        run.first(x -> x.make(1));
        run.due(2, x -> x.link(59, 0));
        run.due(3, x -> x.about(2, 0));
        run.due(1, x -> x.about(2, 1));
        run.due(59, x -> x.about(2, 2));
        run.due(0, x -> x.about(2, 3));
        run.due(0, x -> x.about(2, 4));
        run.due(0, x -> x.block(2, 0));
        run.due(124, x -> x.count(0));
        run.due(160, x -> x.byteOf(1, 257));
        run.due(1, x -> x.byteOf(1, 296));
        run.due(59, x -> x.byteOf(1, 354));
        run.due(0, x -> x.byteOf(1, 355));

        Run small = new Run("the bytes of a small link");
        small.due(1, x -> x.link(3, 252));
        small.dueBytes("1:1=160", "1:4=3", "1:26=1", "1:40=253", "1:41=254", "1:42=255");
    }

    private static void inABlock() {
        Run run = new Run("a target of 60 bytes");
        run.due(1, x -> x.link(60, 0));
        run.due(60, x -> x.about(1, 2));
        run.due(1, x -> x.about(1, 3));
        run.due(4, x -> x.about(1, 4));
        run.due(4, x -> x.block(1, 0));
        run.due(0, x -> x.block(1, 1));
        run.due(123, x -> x.count(0));
        run.dueBytes("1:1=160", "1:4=60", "1:26=1", "1:28=2", "1:40=4");
        run.due(2, x -> x.link(1000, 5));
        run.due(5, x -> x.block(2, 0));
        run.due(122, x -> x.count(0));
    }

    private static void allThere() {
        Run run = new Run("link when all are there");
        for (int i = 1; i <= 12; i++) {
            int file = i;
            run.due(file, x -> x.link(file, 0));
        }
        run.refusedState(x -> x.link(1, 0));
        run.refusedState(x -> x.link(1000, 0));
        run.refusedArgument(x -> x.link(0, 0));
        run.refusedArgument(x -> x.link(1001, 0));
    }

    private static void noBlockFree() {
        Run run = new Run("link when no block is free");
        Runs.takeBlocks(run, 124);
        run.refusedState(x -> x.link(60, 0));
        run.refusedState(x -> x.link(1000, 0));
        run.refusedArgument(x -> x.link(1001, 0));
        run.due(10, x -> x.link(59, 0));
        run.first(x -> x.cut(9, 0));
        run.due(11, x -> x.link(60, 0));
    }

    private static void wrongLength() {
        Run run = new Run("link with a wrong length");
        run.refusedArgument(x -> x.link(0, 1));
        run.refusedArgument(x -> x.link(1001, 1));
        run.refusedArgument(x -> x.link(-1, 1));
        run.refusedArgument(x -> x.link(Integer.MIN_VALUE, 1));
        run.refusedArgument(x -> x.link(Integer.MAX_VALUE, 1));
    }
}
