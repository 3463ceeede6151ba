/** Promise 6: read. */
public final class ReadTest {
    public static void main(String[] args) {
        plain();
        links();
        wrongInputs();
        Run.end();
    }

    private static void plain() {
        Run run = new Run("read of a plain file");
        run.first(x -> x.make(1));
        run.refusedIndex(x -> x.read(1, 0));
        run.first(x -> x.write(1, 3000, 0xFF80, 2));
        run.due(255, x -> x.read(1, 3000));
        run.due(128, x -> x.read(1, 3001));
        run.due(0, x -> x.read(1, 2999));
        run.due(0, x -> x.read(1, 0));
        run.due(0, x -> x.read(1, 1500));
        run.refusedIndex(x -> x.read(1, 3002));
        run.refusedIndex(x -> x.read(1, -1));
        run.refusedIndex(x -> x.read(1, Integer.MAX_VALUE));
        run.refusedIndex(x -> x.read(1, Integer.MIN_VALUE));
        run.first(x -> x.cut(1, 15360));
        run.due(0, x -> x.read(1, 15359));
        run.refusedIndex(x -> x.read(1, 15360));
    }

    private static void links() {
        Run run = new Run("read of links");
        run.first(x -> x.link(59, 254));
        run.first(x -> x.link(60, 254));
        for (int i = 1; i <= 2; i++) {
            int file = i;
            run.due(255, x -> x.read(file, 0));
            run.due(1, x -> x.read(file, 1));
            run.due(58, x -> x.read(file, 58));
            run.refusedIndex(x -> x.read(file, 60));
            run.refusedIndex(x -> x.read(file, -1));
        }
        run.refusedIndex(x -> x.read(1, 59));
        run.due(59, x -> x.read(2, 59));
    }

    private static void wrongInputs() {
        Run run = new Run("wrong inputs of read");
        run.first(x -> x.make(0));
        run.first(x -> x.write(1, 0, 1, 1));
        for (int i : new int[] {0, -1, 2, 12, 13, Integer.MIN_VALUE, Integer.MAX_VALUE}) {
            run.refusedArgument(x -> x.read(i, 0));
            run.refusedArgument(x -> x.read(i, -1));
        }
        run.first(x -> x.drop(1));
        run.refusedArgument(x -> x.read(1, 0));
    }
}
