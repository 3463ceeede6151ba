/** Promise 6: read. */
public final class ReadTest {
    public static void main(String[] args) {
        ordinary();
        ofALinkOfItsTarget();
        from0To255();
        noSuchFile();
        iIsNotInTheSize();
        iIsNotInTheTarget();
        Run.end();
    }

    private static void ordinary() {
        Run run = new Run("read");
        run.first(x -> x.make(1));
        run.first(x -> x.write(1, 3000, 0xFF80, 2));
        run.due(255, x -> x.read(1, 3000));
        run.due(128, x -> x.read(1, 3001));
        run.due(0, x -> x.read(1, 2999));
        run.due(0, x -> x.read(1, 0));
        run.due(0, x -> x.read(1, 1500));
    }

    /** Promise 6, "(of a link, of its target)": in the record, and in a block. */
    private static void ofALinkOfItsTarget() {
        Run run = new Run("Promise 6", "(of a link, of its target)");
        run.first(x -> x.link(59, 254));
        run.first(x -> x.link(60, 254));
        for (int i = 1; i <= 2; i++) {
            int file = i;
            run.due(255, x -> x.read(file, 0));
            run.due(1, x -> x.read(file, 1));
            run.due(58, x -> x.read(file, 58));
        }
        run.due(59, x -> x.read(2, 59));
        run.first(x -> x.link(1000, 0));
        run.due(1, x -> x.read(3, 0));
        run.due(1 + 999 % 255, x -> x.read(3, 999));
    }

    /** Promise 6, "0 .. 255". */
    private static void from0To255() {
        Run run = new Run("Promise 6", "0 .. 255");
        run.first(x -> x.make(1));
        for (int value : new int[] {0, 1, 127, 128, 255}) {
            run.first(x -> x.write(1, 1023, value, 1));
            run.due(value, x -> x.read(1, 1023));
        }
        run.first(x -> x.link(59, 127));
        run.due(128, x -> x.read(2, 0));
        run.first(x -> x.link(60, 127));
        run.due(128, x -> x.read(3, 0));
    }

    /** Promise 6, "there is no such file": also one that is not there any more. */
    private static void noSuchFile() {
        Run run = new Run("Promise 6", "IllegalArgumentException: there is no such file");
        run.first(x -> x.make(0));
        run.first(x -> x.write(1, 0, 1, 1));
        for (int file : Runs.noFiles()) {
            run.refusedArgument(x -> x.read(file, 0));
        }
        run.refusedArgument(x -> x.read(2, 0));
        run.refusedArgument(x -> x.read(12, 0));
        run.due(1, x -> x.read(1, 0));
        run.first(x -> x.drop(1));
        run.refusedArgument(x -> x.read(1, 0));
    }

    /** Promise 6, "i is not 0 .. size less 1": an empty file has no such i. */
    private static void iIsNotInTheSize() {
        Run run = new Run("Promise 6", "IndexOutOfBoundsException: i is not 0 .. size less 1");
        run.first(x -> x.make(1));
        run.refusedIndex(x -> x.read(1, 0));
        run.refusedIndex(x -> x.read(1, -1));
        run.first(x -> x.write(1, 0, 9, 1));
        run.due(9, x -> x.read(1, 0));
        run.refusedIndex(x -> x.read(1, 1));
        run.refusedIndex(x -> x.read(1, -1));
        run.refusedIndex(x -> x.read(1, Integer.MAX_VALUE));
        run.refusedIndex(x -> x.read(1, Integer.MIN_VALUE));
        run.first(x -> x.cut(1, 1024));
        run.due(0, x -> x.read(1, 1023));
        run.refusedIndex(x -> x.read(1, 1024));
        run.first(x -> x.cut(1, 15360));
        run.due(0, x -> x.read(1, 15359));
        run.refusedIndex(x -> x.read(1, 15360));
        run.first(x -> x.cut(1, 0));
        run.refusedIndex(x -> x.read(1, 0));
    }

    /** Promise 6, "i is not 0 .. size less 1": of links. */
    private static void iIsNotInTheTarget() {
        Run run = new Run("Promise 6", "IndexOutOfBoundsException: i is not 0 .. size less 1");
        int[] lengths = {1, 59, 60, 1000};
        for (int i = 1; i <= 4; i++) {
            int file = i;
            int n = lengths[file - 1];
            run.due(file, x -> x.link(n, 0));
            run.due(1 + (n - 1) % 255, x -> x.read(file, n - 1));
            run.refusedIndex(x -> x.read(file, n));
            run.refusedIndex(x -> x.read(file, -1));
            run.refusedIndex(x -> x.read(file, Integer.MIN_VALUE));
            run.refusedIndex(x -> x.read(file, Integer.MAX_VALUE));
        }
    }
}
