/** Promise 11: about. */
public final class AboutTest {
    private static final int MIN = Integer.MIN_VALUE;
    private static final int MAX = Integer.MAX_VALUE;

    public static void main(String[] args) {
        ordinary();
        kind0IfItIsNotThere();
        linksSizeAndBlocks();
        blockOfPiece0();
        theFileBehindIt();
        noFile1To12();
        noSuchNumber();
        ofAFileThatIsNotThere();
        Run.end();
    }

    private static void dueAll(Run run, int file, int... want) {
        for (int i = 0; i < want.length; i++) {
            int what = i;
            run.due(want[what], x -> x.about(file, what));
        }
    }

    private static void ordinary() {
        Run run = new Run("about");
        run.first(x -> x.make(7));
        run.first(x -> x.make(0));
        run.first(x -> x.make(0));
        run.first(x -> x.link(59, 1));
        run.first(x -> x.link(300, 1));
        run.first(x -> x.paint(1, 3000, 2000, 1));
        run.first(x -> x.write(3, 10, 1, 1));
        dueAll(run, 1, 1, 7, 5000, 3, 0, 0);
        dueAll(run, 2, 1, 0, 0, 0, 0, 0);
        dueAll(run, 3, 1, 0, 11, 1, 8, 2);
        dueAll(run, 4, 3, 1, 59, 0, 0, 0);
        dueAll(run, 5, 3, 1, 300, 1, 4, 0);
        run.first(x -> x.cut(1, 15360));
        dueAll(run, 1, 1, 7, 15360, 3, 0, 0);
    }

    /** Promise 11, "0 its kind (0 if it is not there)". */
    private static void kind0IfItIsNotThere() {
        Run run = new Run("Promise 11", "0 its kind (0 if it is not there)");
        run.due(0, x -> x.about(1, 0));
        run.due(0, x -> x.about(12, 0));
        run.first(x -> x.make(0));
        run.due(1, x -> x.about(1, 0));
        run.due(0, x -> x.about(2, 0));
        run.first(x -> x.link(1, 0));
        run.due(3, x -> x.about(2, 0));
        run.first(x -> x.drop(1));
        run.due(0, x -> x.about(1, 0));
    }

    /** Promise 11, "1 links, 2 size, 3 how many blocks it has": the least and the greatest. */
    private static void linksSizeAndBlocks() {
        Run run = new Run("Promise 11", "1 links, 2 size, 3 how many blocks it has");
        run.first(x -> x.make(0));
        dueAll(run, 1, 1, 0, 0, 0, 0, 0);
        run.first(x -> x.links(1, 1000));
        for (int at : new int[] {0, 4000, 8000, 11360}) {
            run.first(x -> x.paint(1, at, 4000, 1));
        }
        dueAll(run, 1, 1, 1000, 15360, 15, 4, 0);
        run.first(x -> x.link(1000, 1));
        run.first(x -> x.links(2, 999));
        dueAll(run, 2, 3, 1000, 1000, 1, 19, 0);
    }

    /** Promise 11, "4 the block of piece 0 (0 for none)": short targets are none. */
    private static void blockOfPiece0() {
        Run run = new Run("Promise 11", "4 the block of piece 0 (0 for none)");
        run.first(x -> x.make(1));
        run.due(0, x -> x.about(1, 4));
        run.first(x -> x.write(1, 1024, 1, 1));
        run.due(0, x -> x.about(1, 4));
        run.first(x -> x.write(1, 1023, 1, 1));
        run.due(5, x -> x.about(1, 4));
        run.first(x -> x.link(59, 1));
        run.due(0, x -> x.about(2, 4));
        run.first(x -> x.link(60, 1));
        run.due(6, x -> x.about(3, 4));

        Run full = new Run("Promise 11", "4 the block of piece 0 (0 for none)");
        Runs.takeBlocks(full, 123);
        full.first(x -> x.make(1));
        full.first(x -> x.write(10, 0, 1, 1));
        full.due(127, x -> x.about(10, 4));
    }

    /** Promise 11, "5 the file behind it in the list": 0 of the last, and of one not in it. */
    private static void theFileBehindIt() {
        Run run = new Run("Promise 11", "5 the file behind it in the list");
        for (int i = 1; i <= 12; i++) {
            int file = i;
            run.first(x -> x.make(0));
            run.due(file - 1, x -> x.about(file, 5));
        }
        run.first(x -> x.links(6, 1));
        run.due(0, x -> x.about(6, 5));
        run.due(5, x -> x.about(7, 5));
    }

    /** Promise 11, "there is no file 1 .. 12". */
    private static void noFile1To12() {
        Run run = new Run("Promise 11", "IllegalArgumentException: there is no file 1 .. 12");
        run.first(x -> x.make(1));
        for (int file : Runs.noFiles()) {
            run.refusedArgument(x -> x.about(file, 0));
            run.refusedArgument(x -> x.about(file, 5));
        }
        run.due(1, x -> x.about(1, 0));
        run.due(0, x -> x.about(12, 0));
    }

    /** Promise 11, "or no such number": also of files that are not there. */
    private static void noSuchNumber() {
        Run run = new Run("Promise 11", "or no such number");
        run.first(x -> x.make(1));
        for (int what : new int[] {-1, 6, 7, MIN, MAX}) {
            run.refusedArgument(x -> x.about(1, what));
            run.refusedArgument(x -> x.about(2, what));
            run.refusedArgument(x -> x.about(12, what));
        }
        run.due(1, x -> x.about(1, 0));
        run.due(0, x -> x.about(1, 5));
    }

    /** Promise 11, "of a file that is not there all are 0": never there, and gone. */
    private static void ofAFileThatIsNotThere() {
        Run run = new Run("Promise 11", "of a file that is not there all are 0");
        dueAll(run, 1, 0, 0, 0, 0, 0, 0);
        run.first(x -> x.make(0));
        run.first(x -> x.make(0));
        run.first(x -> x.paint(2, 0, 4000, 1));
        run.first(x -> x.drop(2));
        dueAll(run, 2, 0, 0, 0, 0, 0, 0);
        dueAll(run, 12, 0, 0, 0, 0, 0, 0);
        run.first(x -> x.link(60, 1));
        run.first(x -> x.links(2, -1));
        run.first(FileBody::finish);
        dueAll(run, 1, 0, 0, 0, 0, 0, 0);
        dueAll(run, 2, 0, 0, 0, 0, 0, 0);
    }
}
