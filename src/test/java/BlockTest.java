/** Promise 12: block. */
public final class BlockTest {
    public static void main(String[] args) {
        plain();
        links();
        wrongInputs();
        Run.end();
    }

    private static void plain() {
        Run run = new Run("block of a plain file");
        run.first(x -> x.make(1));
        for (int i = 14; i >= 0; i -= 2) {
            int piece = i;
            run.first(x -> x.write(1, 1024 * piece, 1, 1));
        }
        for (int i = 0; i <= 14; i++) {
            int piece = i;
            run.due(piece % 2 == 0 ? 11 - piece / 2 : 0, x -> x.block(1, piece));
        }
        run.due(11, x -> x.byteOf(1, 40));
        run.due(4, x -> x.byteOf(1, 96));
    }

    private static void links() {
        Run run = new Run("block of links");
        run.first(x -> x.link(59, 1));
        run.first(x -> x.link(60, 1));
        for (int i = 0; i <= 14; i++) {
            int piece = i;
            run.due(0, x -> x.block(1, piece));
            run.due(piece == 0 ? 4 : 0, x -> x.block(2, piece));
        }
    }

    private static void wrongInputs() {
        Run run = new Run("wrong inputs of block");
        run.first(x -> x.make(0));
        run.first(x -> x.link(59, 1));
        for (int i : new int[] {0, -1, 3, 12, 13, Integer.MIN_VALUE, Integer.MAX_VALUE}) {
            run.refusedArgument(x -> x.block(i, 0));
        }
        for (int piece : new int[] {-1, 15, 16, Integer.MIN_VALUE, Integer.MAX_VALUE}) {
            run.refusedArgument(x -> x.block(1, piece));
            run.refusedArgument(x -> x.block(2, piece));
        }
        run.first(x -> x.drop(1));
        run.refusedArgument(x -> x.block(1, 0));
    }
}
