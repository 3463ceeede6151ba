/** Promise 7: cut. */
public final class CutTest {
    private static final int MIN = Integer.MIN_VALUE;
    private static final int MAX = Integer.MAX_VALUE;

    public static void main(String[] args) {
        soManyBytes();
        thoseBehindAreCutOff();
        piecesWhoseFirstByteIs();
        blocksAreFreeAgain();
        zeroesComeBehindItsEnd();
        noBlocks();
        theSizeBefore();
        records();
        noSuchPlainFile();
        sizeIsNot0To15360();
        Run.end();
    }

    private static Run painted(String sentence) {
        Run run = new Run("Promise 7", sentence);
        run.first(x -> x.make(1));
        run.first(x -> x.paint(1, 0, 4000, 1));
        return run;
    }

    /** Promise 7, "A plain file has so many bytes then": all edges of pieces, and 0. */
    private static void soManyBytes() {
        for (int size : new int[] {0, 1, 1023, 1024, 1025, 3999, 4000, 4001, 15359, 15360}) {
            Run run = painted("A plain file has so many bytes then");
            run.due(4000, x -> x.cut(1, size));
            run.due(size, x -> x.about(1, 2));
            int[] body = new int[size];
            Runs.pattern(body, 0, Math.min(size, 4000), 1);
            run.dueBody(1, body);
        }
    }

    /** Promise 7, "those behind are cut off": they do not come back. */
    private static void thoseBehindAreCutOff() {
        for (int size : new int[] {0, 1, 1023, 1024, 1025, 1500, 3999}) {
            Run longer = painted("those behind are cut off");
            longer.first(x -> x.cut(1, size));
            longer.first(x -> x.cut(1, 4000));
            int[] body = new int[4000];
            Runs.pattern(body, 0, size, 1);
            longer.dueBody(1, body);

            Run written = painted("those behind are cut off");
            written.first(x -> x.cut(1, size));
            written.first(x -> x.write(1, 3999, 200, 1));
            body[3999] = 200;
            written.dueBody(1, body);
        }
        Run piece = painted("those behind are cut off");
        piece.first(x -> x.cut(1, 10));
        piece.first(x -> x.write(1, 1000, 3, 1));
        int[] rest = new int[1001];
        Runs.pattern(rest, 0, 10, 1);
        rest[1000] = 3;
        piece.dueBody(1, rest);
    }

    /** Promise 7, "(pieces whose first byte is, have no block any more)". */
    private static void piecesWhoseFirstByteIs() {
        Run run = painted("(pieces whose first byte is, have no block any more)");
        run.due(4000, x -> x.cut(1, 3073));
        run.due(7, x -> x.block(1, 3));
        run.due(3073, x -> x.cut(1, 3072));
        run.due(0, x -> x.block(1, 3));
        run.due(6, x -> x.block(1, 2));
        run.due(3072, x -> x.cut(1, 3071));
        run.due(6, x -> x.block(1, 2));
        run.due(3071, x -> x.cut(1, 1));
        run.due(4, x -> x.block(1, 0));
        run.due(0, x -> x.block(1, 1));
        run.due(0, x -> x.block(1, 2));
        run.due(1, x -> x.about(1, 3));
        run.due(1, x -> x.cut(1, 0));
        run.due(0, x -> x.block(1, 0));
        run.due(0, x -> x.about(1, 3));

        Run last = new Run("Promise 7", "(pieces whose first byte is, have no block any more)");
        last.first(x -> x.make(1));
        last.first(x -> x.write(1, 15359, 1, 1));
        last.due(15360, x -> x.cut(1, 14337));
        last.due(4, x -> x.block(1, 14));
        last.due(14337, x -> x.cut(1, 14336));
        last.due(0, x -> x.block(1, 14));
    }

    /** Promise 7, "have no block any more": the block is free, and may be taken again. */
    private static void blocksAreFreeAgain() {
        Run run = painted("have no block any more");
        run.first(x -> x.make(1));
        run.first(x -> x.cut(1, 1024));
        run.due(123, x -> x.count(0));
        run.first(x -> x.paint(2, 0, 4000, 9));
        run.due(5, x -> x.block(2, 0));
        run.due(8, x -> x.block(2, 3));
        run.first(x -> x.cut(1, 4000));
        int[] body = new int[4000];
        Runs.pattern(body, 0, 1024, 1);
        run.dueBody(1, body);
        run.dueBody(2, Runs.painted(4000, 9));
    }

    /** Promise 7, "or 0s come behind its end". */
    private static void zeroesComeBehindItsEnd() {
        Run run = new Run("Promise 7", "or 0s come behind its end");
        run.first(x -> x.make(0));
        run.due(0, x -> x.cut(1, 15360));
        run.dueBody(1, new int[15360]);

        Run used = new Run("Promise 7", "or 0s come behind its end");
        used.first(x -> x.make(1));
        used.first(x -> x.paint(1, 0, 2048, 3));
        used.first(x -> x.cut(1, 0));
        used.first(x -> x.write(1, 0, 255, 1));
        used.due(1, x -> x.cut(1, 2048));
        int[] body = new int[2048];
        body[0] = 255;
        used.dueBody(1, body);
    }

    /** Promise 7, "(no blocks)": also when no block is free. */
    private static void noBlocks() {
        Run run = new Run("Promise 7", "(no blocks)");
        run.first(x -> x.make(1));
        run.due(0, x -> x.cut(1, 1));
        run.due(0, x -> x.about(1, 3));
        run.due(1, x -> x.cut(1, 15360));
        run.due(0, x -> x.about(1, 3));
        run.due(124, x -> x.count(0));
        run.due(15360, x -> x.write(1, 5000, 9, 1));
        run.due(1, x -> x.about(1, 3));

        Run full = new Run("Promise 7", "(no blocks)");
        Runs.takeBlocks(full, 124);
        full.first(x -> x.make(1));
        full.due(0, x -> x.cut(10, 15360));
        full.due(0, x -> x.read(10, 15359));
        full.refusedState(x -> x.write(10, 0, 1, 1));
    }

    /** Promise 7, ": the size before": when it becomes less, stays, and becomes more. */
    private static void theSizeBefore() {
        Run run = painted("the size before");
        run.due(4000, x -> x.cut(1, 4000));
        run.due(4000, x -> x.cut(1, 3999));
        run.due(3999, x -> x.cut(1, 0));
        run.due(0, x -> x.cut(1, 0));
        run.due(0, x -> x.cut(1, 15360));
        run.due(15360, x -> x.cut(1, 15360));
        run.due(15360, x -> x.cut(1, 1));
    }

    private static void records() {
        Run run = new Run("the record behind a cut");
        run.first(x -> x.make(1));
        run.first(x -> x.paint(1, 0, 4000, 1));
        run.first(x -> x.cut(1, 1025));
        run.dueBytes("1:1=128", "1:4=1", "1:5=4", "1:26=1", "1:28=4", "1:40=4", "1:44=5");
        run.first(x -> x.cut(1, 0));
        run.dueBytes("1:1=128", "1:26=1");
    }

    /** Promise 7, "there is no such plain file". */
    private static void noSuchPlainFile() {
        Run run = painted("IllegalArgumentException: there is no such plain file");
        run.first(x -> x.link(59, 1));
        run.first(x -> x.link(60, 1));
        run.first(x -> x.make(0));
        run.first(x -> x.drop(4));
        for (int file : Runs.noFiles()) {
            run.refusedArgument(x -> x.cut(file, 0));
        }
        for (int file : new int[] {2, 3, 4, 5, 12}) {
            run.refusedArgument(x -> x.cut(file, 0));
            run.refusedArgument(x -> x.cut(file, 60));
        }
        run.due(4000, x -> x.cut(1, 0));
    }

    /** Promise 7, "or size is not 0 .. 15,360". */
    private static void sizeIsNot0To15360() {
        Run run = painted("or size is not 0 .. 15,360");
        for (int size : new int[] {-1, -1024, 15361, 16384, MIN, MAX}) {
            run.refusedArgument(x -> x.cut(1, size));
        }
        run.due(4000, x -> x.cut(1, 15360));
        run.due(15360, x -> x.cut(1, 0));
        run.refusedArgument(x -> x.cut(1, -1));
    }
}
