/** Promise 12: block. */
public final class BlockTest {
    public static void main(String[] args) {
        zeroForNone();
        edgesOfBlocks();
        ofShortTargetsNone();
        noSuchFile();
        noSuchPiece();
        Run.end();
    }

    /** Promise 12, "The block of a piece, 0 for none": of all pieces, behind the size too. */
    private static void zeroForNone() {
        Run run = new Run("Promise 12", "The block of a piece, 0 for none");
        run.first(x -> x.make(1));
        for (int i = 0; i <= 14; i++) {
            int piece = i;
            run.due(0, x -> x.block(1, piece));
        }
        for (int i = 14; i >= 0; i -= 2) {
            int piece = i;
            run.first(x -> x.write(1, 1024 * piece, 1, 1));
        }
        for (int i = 0; i <= 14; i++) {
            int piece = i;
            run.due(piece % 2 == 0 ? 11 - piece / 2 : 0, x -> x.block(1, piece));
        }
        run.first(x -> x.cut(1, 14 * 1024));
        run.due(0, x -> x.block(1, 14));
        run.due(5, x -> x.block(1, 12));
    }

    /** Promise 12, "The block of a piece": from 4, the first that is free, to 127, the last. */
    private static void edgesOfBlocks() {
        Run run = new Run("Promise 12", "The block of a piece");
        Runs.takeBlocks(run, 124);
        run.due(4, x -> x.block(1, 0));
        run.due(18, x -> x.block(1, 14));
        run.due(127, x -> x.block(9, 3));
        run.due(0, x -> x.block(9, 4));
    }

    /** Promise 12, "(of links with short targets none)": 59 bytes are short, 60 are not. */
    private static void ofShortTargetsNone() {
        Run run = new Run("Promise 12", "(of links with short targets none)");
        run.first(x -> x.link(59, 1));
        run.first(x -> x.link(60, 1));
        run.first(x -> x.link(1, 3));
        for (int i = 0; i <= 14; i++) {
            int piece = i;
            run.due(0, x -> x.block(1, piece));
            run.due(piece == 0 ? 4 : 0, x -> x.block(2, piece));
            run.due(0, x -> x.block(3, piece));
        }
    }

    /** Promise 12, "there is no such file": also one that is not there any more. */
    private static void noSuchFile() {
        Run run = new Run("Promise 12", "IllegalArgumentException: there is no such file");
        run.first(x -> x.make(0));
        run.first(x -> x.write(1, 0, 1, 1));
        for (int file : Runs.noFiles()) {
            run.refusedArgument(x -> x.block(file, 0));
        }
        run.refusedArgument(x -> x.block(2, 0));
        run.refusedArgument(x -> x.block(12, 14));
        run.due(4, x -> x.block(1, 0));
        run.first(x -> x.drop(1));
        run.refusedArgument(x -> x.block(1, 0));
    }

    /** Promise 12, "or piece (0 .. 14)": 4 times the last two wraps to pieces 0 and 14. */
    private static void noSuchPiece() {
        Run run = new Run("Promise 12", "or piece (0 .. 14)");
        Runs.takeBlocks(run, 15);
        run.first(x -> x.link(59, 1));
        int[] pieces = {
            -1, -10, 15, 16, Integer.MIN_VALUE, Integer.MAX_VALUE, 1 << 30, (1 << 30) + 14};
        for (int piece : pieces) {
            run.refusedArgument(x -> x.block(1, piece));
            run.refusedArgument(x -> x.block(2, piece));
        }
        run.due(4, x -> x.block(1, 0));
        run.due(18, x -> x.block(1, 14));
    }
}
