/** Promise 2: make. */
public final class MakeTest {
    public static void main(String[] args) {
        ordinary();
        ofSize0();
        withSoManyLinks();
        itWaitsIfTheseAre0();
        theLeastThatIsNotThere();
        linksIsNot0To1000();
        allAreThere();
        Run.end();
    }

    private static void ordinary() {
        Run run = new Run("make");
        run.due(1, x -> x.make(1));
        run.due(2, x -> x.make(1000));
        run.due(1, x -> x.about(1, 0));
        run.due(1, x -> x.about(2, 0));
        run.due(124, x -> x.count(0));
        run.dueBytes("1:1=128", "1:26=1", "1:257=128", "1:282=232", "1:283=3");
    }

    /** Promise 2, "of size 0": also where a file with bytes was before. */
    private static void ofSize0() {
        Run run = new Run("Promise 2", "of size 0");
        run.due(1, x -> x.make(0));
        run.due(0, x -> x.about(1, 2));
        run.refusedIndex(x -> x.read(1, 0));
        run.first(x -> x.paint(1, 12000, 3360, 1));
        run.first(x -> x.drop(1));
        run.due(1, x -> x.make(1));
        run.due(0, x -> x.about(1, 2));
        run.due(0, x -> x.about(1, 3));
        run.refusedIndex(x -> x.read(1, 0));
        run.dueBytes("1:1=128", "1:26=1");
    }

    /** Promise 2, "with so many links": the edges, and those of one byte in the record. */
    private static void withSoManyLinks() {
        for (int links : new int[] {0, 1, 255, 256, 999, 1000}) {
            Run run = new Run("Promise 2", "with so many links");
            run.due(1, x -> x.make(links));
            run.due(links, x -> x.about(1, 1));
            run.due(links % 256, x -> x.byteOf(1, 26));
            run.due(links / 256, x -> x.byteOf(1, 27));
        }
    }

    /** Promise 2, "(it waits, if these are 0)". */
    private static void itWaitsIfTheseAre0() {
        Run run = new Run("Promise 2", "(it waits, if these are 0)");
        run.due(1, x -> x.make(1));
        run.due(0, x -> x.count(2));
        run.due(0, x -> x.count(3));
        run.due(2, x -> x.make(0));
        run.due(1, x -> x.count(2));
        run.due(2, x -> x.count(3));
        run.due(0, x -> x.about(2, 5));
        run.due(3, x -> x.make(0));
        run.due(2, x -> x.count(2));
        run.due(3, x -> x.count(3));
        run.due(2, x -> x.about(3, 5));
        run.due(4, x -> x.make(1000));
        run.due(2, x -> x.count(2));
        run.due(3, x -> x.count(3));
    }

    /** Promise 2, "its number, the least that is not there". */
    private static void theLeastThatIsNotThere() {
        Run run = new Run("Promise 2", "its number, the least that is not there");
        for (int i = 1; i <= 12; i++) {
            int file = i;
            run.due(file, x -> x.make(0));
        }
        for (int file : new int[] {12, 1, 7, 4}) {
            run.first(x -> x.drop(file));
        }
        run.due(1, x -> x.make(1));
        run.due(4, x -> x.make(1));
        run.due(7, x -> x.make(1));
        run.due(12, x -> x.make(1));
    }

    /** Promise 2, "links is not 0 .. 1000". */
    private static void linksIsNot0To1000() {
        Run run = new Run("Promise 2", "IllegalArgumentException: links is not 0 .. 1000");
        for (int links : new int[] {-1, 1001, -1000, 65536, Integer.MIN_VALUE, Integer.MAX_VALUE}) {
            run.refusedArgument(x -> x.make(links));
        }
        run.due(1, x -> x.make(0));
        run.due(2, x -> x.make(1000));
    }

    /** Promise 2, "all are there". */
    private static void allAreThere() {
        Run run = new Run("Promise 2", "IllegalStateException: all are there");
        for (int i = 1; i <= 12; i++) {
            int file = i;
            run.due(file, x -> x.make(file));
        }
        for (int links : new int[] {0, 1, 1000}) {
            run.refusedState(x -> x.make(links));
        }
        run.first(x -> x.links(12, -12));
        run.refusedState(x -> x.make(1));
        run.first(x -> x.drop(12));
        run.due(12, x -> x.make(1));
        run.refusedState(x -> x.make(1));
    }
}
