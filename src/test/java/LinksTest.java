/** Promise 8: links. */
public final class LinksTest {
    private static final int MIN = Integer.MIN_VALUE;
    private static final int MAX = Integer.MAX_VALUE;

    public static void main(String[] args) {
        moreOrLess();
        whenThereAreNoneItWaits();
        itWaitsIfItDidNot();
        theOrderOfTheList();
        whenThereAreSomeAgain();
        noSuchFile();
        fewerThan0();
        moreThan1000();
        Run.end();
    }

    /** Promise 8, "A file has by that many links more (or less): how many": by 0 too. */
    private static void moreOrLess() {
        Run run = new Run("Promise 8", "A file has by that many links more (or less): how many");
        run.first(x -> x.make(1));
        run.first(x -> x.link(5, 1));
        run.due(1, x -> x.links(1, 0));
        run.due(255, x -> x.links(1, 254));
        run.due(256, x -> x.links(1, 1));
        run.due(0, x -> x.byteOf(1, 26));
        run.due(1, x -> x.byteOf(1, 27));
        run.due(1000, x -> x.links(1, 744));
        run.due(1000, x -> x.about(1, 1));
        run.due(1000, x -> x.links(1, 0));
        run.due(232, x -> x.byteOf(1, 26));
        run.due(3, x -> x.byteOf(1, 27));
        run.due(1, x -> x.links(1, -999));
        run.due(0, x -> x.count(2));
        run.due(1000, x -> x.links(2, 999));
        run.due(0, x -> x.links(2, -1000));
        run.due(5, x -> x.read(2, 3));
    }

    /** Promise 8, "When there are none any more, it waits": not with one left. */
    private static void whenThereAreNoneItWaits() {
        Run run = new Run("Promise 8", "When there are none any more, it waits");
        run.first(x -> x.make(2));
        run.first(x -> x.make(1000));
        run.first(x -> x.link(60, 1));
        run.due(1, x -> x.links(1, -1));
        run.due(0, x -> x.count(2));
        run.due(0, x -> x.links(1, -1));
        run.due(1, x -> x.count(2));
        run.due(1, x -> x.count(3));
        run.due(0, x -> x.links(2, -1000));
        run.due(2, x -> x.count(3));
        run.due(0, x -> x.links(3, -1));
        run.due(3, x -> x.count(3));
        run.due(3, x -> x.count(2));
        run.due(2, x -> x.about(3, 5));
        run.due(1, x -> x.about(2, 5));
        run.due(0, x -> x.about(1, 5));
    }

    /** Promise 8, "it waits, if it did not": one that waits keeps its place when by is 0. */
    private static void itWaitsIfItDidNot() {
        Run run = new Run("Promise 8", "it waits, if it did not");
        run.first(x -> x.make(0));
        run.due(0, x -> x.links(1, 0));
        run.due(1, x -> x.count(2));
        run.due(0, x -> x.about(1, 5));
        run.first(x -> x.make(0));
        run.first(x -> x.make(0));
        for (int file = 1; file <= 3; file++) {
            int asked = file;
            run.due(0, x -> x.links(asked, 0));
            run.due(3, x -> x.count(2));
            run.due(3, x -> x.count(3));
            run.due(2, x -> x.about(3, 5));
            run.due(1, x -> x.about(2, 5));
            run.due(0, x -> x.about(1, 5));
        }
    }

    private static void theOrderOfTheList() {
        Run run = new Run("the order of the list");
        Runs.makeFiles(run, 6);
        for (int file : new int[] {3, 6, 1, 5}) {
            run.due(0, x -> x.links(file, -1));
            run.due(file, x -> x.count(3));
        }
        run.due(4, x -> x.count(2));
        run.due(1, x -> x.about(5, 5));
        run.due(6, x -> x.about(1, 5));
        run.due(3, x -> x.about(6, 5));
        run.due(0, x -> x.about(3, 5));
        run.due(5, x -> x.byteOf(0, 232));
        run.due(1, x -> x.byteOf(2, 20));
        run.due(6, x -> x.byteOf(1, 20));
        run.due(3, x -> x.byteOf(2, 276));
    }

    /**
     * Promise 8, "when there are some again, it does not wait any more": the first, the last, one
     * between them, and the only one.
     */
    private static void whenThereAreSomeAgain() {
        String sentence = "when there are some again, it does not wait any more";
        for (int i = 1; i <= 4; i++) {
            int file = i;
            Run run = new Run("Promise 8", sentence);
            for (int k = 1; k <= 4; k++) {
                run.first(x -> x.make(0));
            }
            run.due(2, x -> x.links(file, 2));
            run.due(3, x -> x.count(2));
            run.due(0, x -> x.about(file, 5));
            run.due(file == 4 ? 3 : 4, x -> x.count(3));
            for (int k = 2; k <= 4; k++) {
                int other = k;
                int behind = other - 1 == file ? other - 2 : other - 1;
                run.due(other == file ? 0 : behind, x -> x.about(other, 5));
            }
            run.due(0, x -> x.links(file, -2));
            run.due(file, x -> x.count(3));
            run.due(4, x -> x.count(2));
        }
        Run only = new Run("Promise 8", sentence);
        only.first(x -> x.make(0));
        only.due(1, x -> x.links(1, 1));
        only.due(0, x -> x.count(2));
        only.due(0, x -> x.count(3));
        only.due(0, FileBody::finish);
        only.due(1, x -> x.count(1));
        only.dueBytes("1:1=128", "1:26=1");
    }

    /** Promise 8, "there is no such file". */
    private static void noSuchFile() {
        Run run = new Run("Promise 8", "IllegalArgumentException: there is no such file");
        run.first(x -> x.make(3));
        run.first(x -> x.make(0));
        run.first(x -> x.drop(2));
        for (int file : Runs.noFiles()) {
            run.refusedArgument(x -> x.links(file, 0));
            run.refusedArgument(x -> x.links(file, 1));
        }
        for (int file : new int[] {2, 3, 12}) {
            run.refusedArgument(x -> x.links(file, 0));
            run.refusedArgument(x -> x.links(file, 1));
        }
        run.due(4, x -> x.links(1, 1));
    }

    /** Promise 8, "or it would have fewer than 0". */
    private static void fewerThan0() {
        Run run = new Run("Promise 8", "or it would have fewer than 0");
        run.first(x -> x.make(3));
        run.first(x -> x.make(0));
        run.first(x -> x.make(1000));
        for (int by : new int[] {-4, -1000, MIN, MIN + 3}) {
            run.refusedArgument(x -> x.links(1, by));
        }
        for (int by : new int[] {-1, -1000, MIN}) {
            run.refusedArgument(x -> x.links(2, by));
        }
        for (int by : new int[] {-1001, MIN, MIN + 1000}) {
            run.refusedArgument(x -> x.links(3, by));
        }
        run.due(0, x -> x.links(1, -3));
        run.due(0, x -> x.links(3, -1000));
        run.refusedArgument(x -> x.links(3, -1));
    }

    /** Promise 8, "or more than 1000": also when the sum wraps. */
    private static void moreThan1000() {
        Run run = new Run("Promise 8", "or more than 1000");
        run.first(x -> x.make(3));
        run.first(x -> x.make(0));
        run.first(x -> x.make(1000));
        for (int by : new int[] {998, 1000, MAX, MAX - 2, 65536}) {
            run.refusedArgument(x -> x.links(1, by));
        }
        for (int by : new int[] {1001, 65536, MAX}) {
            run.refusedArgument(x -> x.links(2, by));
        }
        for (int by : new int[] {1, 1000, MAX, MAX - 999}) {
            run.refusedArgument(x -> x.links(3, by));
        }
        run.due(1000, x -> x.links(1, 997));
        run.due(1000, x -> x.links(2, 1000));
        run.refusedArgument(x -> x.links(2, 1));
    }
}
