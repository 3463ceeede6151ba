/** Terms: the volume, pieces, and how blocks are taken. */
public final class VolumeTest {
    public static void main(String[] args) {
        allOthersAreFreeAtFirst();
        takenInOrderOfTheirNumbers();
        theLeastFreeOneFromAGoalOn();
        ifThereIsNoneTheLeastFreeOne();
        oneMoreThanTheBlockBefore();
        theGoalIs4IfThatHasNone();
        pieceKHasBytes();
        aPieceWithoutABlockIsAll0();
        atMost15Pieces();
        bytesBehindTheSizeAre0();
        Run.end();
    }

    /** Terms, "all others are free at first": 4 to 127, each of which can be taken. */
    private static void allOthersAreFreeAtFirst() {
        Run run = new Run("Terms", "all others are free at first");
        run.due(124, x -> x.count(0));
        Runs.takeBlocks(run, 124);
        run.first(x -> x.make(1));
        run.refusedState(x -> x.write(9, 4 * 1024, 1, 1));
        run.refusedState(x -> x.write(10, 0, 1, 1));
        run.refusedState(x -> x.link(60, 1));
    }

    /** Terms, "taken in order of their numbers": from the first, 4, to the last, 127. */
    private static void takenInOrderOfTheirNumbers() {
        Run run = new Run("Terms", "and taken in order of their numbers");
        Runs.takeBlocks(run, 124);
        for (int i = 0; i < 124; i++) {
            int file = 1 + i / 15;
            int piece = i % 15;
            run.due(4 + i, x -> x.block(file, piece));
        }
    }

    /** Terms, "the least free one from a GOAL on": the goal itself, if it is free. */
    private static void theLeastFreeOneFromAGoalOn() {
        Run run = new Run("Terms", "the least free one from a GOAL on");
        Runs.takeBlocks(run, 60);
        run.first(x -> x.cut(1, 10 * 1024));
        run.first(x -> x.cut(3, 0));
        run.first(x -> x.cut(2, 14 * 1024));
        run.first(x -> x.write(2, 14 * 1024, 1, 1));
        run.due(33, x -> x.block(2, 14));
        run.first(x -> x.cut(4, 13 * 1024));
        run.first(x -> x.write(1, 10 * 1024, 1, 1));
        run.due(14, x -> x.block(1, 10));
        run.first(x -> x.write(3, 0, 1, 1));
        run.due(15, x -> x.block(3, 0));
        run.first(x -> x.write(1, 11 * 1024, 1, 1));
        run.due(16, x -> x.block(1, 11));
        run.first(x -> x.write(3, 1024, 1, 1));
        run.due(17, x -> x.block(3, 1));
        run.first(x -> x.write(1, 12 * 1024, 1, 1));
        run.due(18, x -> x.block(1, 12));
        run.first(x -> x.write(1, 13 * 1024, 1, 1));
        run.due(34, x -> x.block(1, 13));
        run.first(x -> x.write(3, 2 * 1024, 1, 1));
        run.due(35, x -> x.block(3, 2));
    }

    /** Terms, "and, if there is none, the least free one": also behind block 127, the last. */
    private static void ifThereIsNoneTheLeastFreeOne() {
        Run run = new Run("Terms", "and, if there is none, the least free one");
        Runs.takeBlocks(run, 124);
        run.first(x -> x.cut(1, 14 * 1024));
        run.first(x -> x.cut(2, 10 * 1024));
        run.first(x -> x.write(9, 4 * 1024, 1, 1));
        run.due(18, x -> x.block(9, 4));
        run.first(x -> x.write(9, 5 * 1024, 1, 1));
        run.due(29, x -> x.block(9, 5));
        run.first(x -> x.cut(1, 0));
        run.first(x -> x.write(2, 10 * 1024, 1, 1));
        run.due(30, x -> x.block(2, 10));
        run.first(x -> x.paint(2, 11 * 1024, 4000, 1));
        run.due(31, x -> x.block(2, 11));
        run.due(33, x -> x.block(2, 13));
        run.due(4, x -> x.block(2, 14));
        run.first(x -> x.write(9, 6 * 1024, 1, 1));
        run.due(5, x -> x.block(9, 6));
    }

    /** Terms, "1 more than the block of the piece before it": not of the last one taken. */
    private static void oneMoreThanTheBlockBefore() {
        Run run = new Run("Terms", "1 more than the block of the piece before it");
        run.first(x -> x.make(1));
        run.first(x -> x.make(1));
        run.first(x -> x.write(1, 0, 1, 1));
        run.first(x -> x.write(2, 0, 1, 1));
        run.first(x -> x.write(1, 1024, 1, 1));
        run.first(x -> x.write(2, 1024, 1, 1));
        run.due(6, x -> x.block(1, 1));
        run.due(7, x -> x.block(2, 1));
        run.first(x -> x.cut(1, 0));
        run.first(x -> x.write(2, 2048, 1, 1));
        run.due(8, x -> x.block(2, 2));

        Run two = new Run("Terms", "1 more than the block of the piece before it");
        Runs.takeBlocks(two, 15);
        two.first(x -> x.make(1));
        two.first(x -> x.write(2, 0, 1, 1));
        two.first(x -> x.cut(1, 1024));
        two.first(x -> x.write(2, 1020, 1, 8));
        two.due(20, x -> x.block(2, 1));
        two.first(x -> x.write(2, 3 * 1024 + 1020, 1, 8));
        two.due(5, x -> x.block(2, 3));
        two.due(6, x -> x.block(2, 4));
    }

    /** Terms, "the goal is 4, if that has none": piece 0, and one behind a piece with none. */
    private static void theGoalIs4IfThatHasNone() {
        Run run = new Run("Terms", "the goal is 4, if that has none");
        Runs.takeBlocks(run, 20);
        run.first(x -> x.cut(1, 1024));
        run.first(x -> x.write(2, 6 * 1024, 1, 1));
        run.due(5, x -> x.block(2, 6));
        run.first(x -> x.link(60, 1));
        run.due(6, x -> x.block(3, 0));
        run.first(x -> x.make(1));
        run.first(x -> x.write(4, 14 * 1024, 1, 1));
        run.due(7, x -> x.block(4, 14));
        run.first(x -> x.write(4, 0, 1, 1));
        run.due(8, x -> x.block(4, 0));
        run.first(x -> x.cut(1, 0));
        run.first(x -> x.write(4, 12 * 1024, 1, 1));
        run.due(4, x -> x.block(4, 12));
    }

    /** Terms, "PIECE k has bytes 1,024 k to 1,024 k + 1,023": its first and its last. */
    private static void pieceKHasBytes() {
        for (int k = 0; k <= 14; k++) {
            dueOnePiece(1024 * k, k);
            dueOnePiece(1024 * k + 1023, k);
        }
    }

    private static void dueOnePiece(int at, int k) {
        Run run = new Run("Terms", "PIECE k has bytes 1,024 k to 1,024 k + 1,023");
        run.first(x -> x.make(1));
        run.first(x -> x.write(1, at, 1, 1));
        for (int i = 0; i <= 14; i++) {
            int piece = i;
            run.due(piece == k ? 4 : 0, x -> x.block(1, piece));
        }
    }

    /** Terms, "a piece without a block is all 0". */
    private static void aPieceWithoutABlockIsAll0() {
        Run run = new Run("Terms", "a piece without a block is all 0");
        run.first(x -> x.make(0));
        run.first(x -> x.make(1));
        run.first(x -> x.paint(1, 0, 4000, 1));
        run.first(x -> x.drop(1));
        run.first(x -> x.paint(2, 1024, 1024, 5));
        run.first(x -> x.paint(2, 4096, 1024, 5));
        run.first(x -> x.cut(2, 15360));
        int[] body = new int[15360];
        Runs.pattern(body, 1024, 1024, 5);
        Runs.pattern(body, 4096, 1024, 5);
        run.dueBody(2, body);
        run.due(2, x -> x.about(2, 3));
    }

    /** Terms, "Files have at most 15 pieces (15,360 bytes)". */
    private static void atMost15Pieces() {
        Run run = new Run("Terms", "Files have at most 15 pieces (15,360 bytes)");
        Runs.takeBlocks(run, 15);
        run.due(15, x -> x.about(1, 3));
        run.due(15360, x -> x.write(1, 15359, 9, 1));
        run.due(15, x -> x.about(1, 3));
        run.refusedArgument(x -> x.write(1, 15360, 9, 1));
        run.refusedArgument(x -> x.paint(1, 15360, 1, 9));
        run.refusedArgument(x -> x.cut(1, 15361));
        run.refusedArgument(x -> x.block(1, 15));
        run.refusedIndex(x -> x.read(1, 15360));
        run.due(9, x -> x.read(1, 15359));
    }

    /** Terms, "Bytes of a piece that has a block, and that are behind the size, are 0". */
    private static void bytesBehindTheSizeAre0() {
        String sentence = "Bytes of a piece that has a block, and that are behind the size, are 0.";
        for (int size : new int[] {1, 512, 1023}) {
            Run run = new Run("Terms", sentence);
            run.first(x -> x.make(1));
            run.first(x -> x.paint(1, 0, 1024, 255));
            run.first(x -> x.cut(1, size));
            run.due(4, x -> x.block(1, 0));
            run.first(x -> x.cut(1, 1024));
            int[] body = new int[1024];
            Runs.pattern(body, 0, size, 255);
            run.dueBody(1, body);
        }
        Run used = new Run("Terms", sentence);
        used.first(x -> x.link(1000, 1));
        used.first(x -> x.links(1, -1));
        used.first(x -> x.drop(1));
        used.first(x -> x.make(1));
        used.first(x -> x.write(1, 0, 7, 1));
        used.first(x -> x.cut(1, 1024));
        int[] body = new int[1024];
        body[0] = 7;
        used.dueBody(1, body);
    }
}
