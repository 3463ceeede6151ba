/** Promise 14: byteOf. */
public final class ByteOfTest {
    private static final int MIN = Integer.MIN_VALUE;
    private static final int MAX = Integer.MAX_VALUE;

    public static void main(String[] args) {
        ofBlock0To3();
        from0To255();
        noSuchBlock();
        noSuchByte();
        Run.end();
    }

    /** Promise 14, "Byte i of block 0 .. 3": the first and the last byte of each. */
    private static void ofBlock0To3() {
        Run run = new Run("Promise 14", "Byte i of block 0 .. 3");
        Runs.makeFiles(run, 12);
        for (int k = 0; k <= 3; k++) {
            int block = k;
            run.due(0, x -> x.byteOf(block, 0));
            run.due(block == 0 ? 0 : 128, x -> x.byteOf(block, 1));
            run.due(block == 0 ? 0 : 128, x -> x.byteOf(block, 769));
            run.due(0, x -> x.byteOf(block, 1023));
        }
    }

    /** Promise 14, "0 .. 255": not below 0 for those above 127. */
    private static void from0To255() {
        Run run = new Run("Promise 14", "0 .. 255");
        run.first(x -> x.link(3, 253));
        run.due(160, x -> x.byteOf(1, 1));
        run.due(254, x -> x.byteOf(1, 40));
        run.due(255, x -> x.byteOf(1, 41));
        run.due(1, x -> x.byteOf(1, 42));
        run.due(0, x -> x.byteOf(1, 43));
        run.first(x -> x.make(255));
        run.due(255, x -> x.byteOf(1, 282));
        run.due(0, x -> x.byteOf(1, 283));
    }

    /** Promise 14, "there is none": no such block; 1,024 times the last two wraps to 0 and 3. */
    private static void noSuchBlock() {
        Run run = new Run("Promise 14", "IndexOutOfBoundsException: there is none (no such block)");
        run.first(x -> x.make(0));
        run.first(x -> x.paint(1, 0, 1024, 1));
        for (int block : new int[] {-1, 4, 5, 127, 128, MIN, MAX, 1 << 22, (1 << 22) + 3}) {
            run.refusedIndex(x -> x.byteOf(block, 0));
            run.refusedIndex(x -> x.byteOf(block, 1023));
        }
        run.due(0, x -> x.byteOf(0, 0));
        run.due(0, x -> x.byteOf(3, 0));
    }

    /** Promise 14, "there is none": no such byte, though there may be one in the next block. */
    private static void noSuchByte() {
        Run run = new Run("Promise 14", "IndexOutOfBoundsException: there is none (no such byte)");
        run.first(x -> x.make(0));
        for (int i : new int[] {-1, -1024, 1024, 1025, 2048, MIN, MAX}) {
            for (int k = 0; k <= 3; k++) {
                int block = k;
                run.refusedIndex(x -> x.byteOf(block, i));
            }
        }
        run.due(0, x -> x.byteOf(0, 1023));
        run.due(0, x -> x.byteOf(3, 1023));
    }
}
