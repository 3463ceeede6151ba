/** Promise 1: a new object. */
public final class NewObjectTest {
    public static void main(String[] args) {
        noFiles();
        nothingWaits();
        objectsAreApart();
        the512thCall();
        Run.end();
    }

    /** Promise 1, "No files". */
    private static void noFiles() {
        Run run = new Run("Promise 1", "No files");
        run.due(0, x -> x.count(1));
        for (int i = 1; i <= 12; i++) {
            int file = i;
            run.due(0, x -> x.about(file, 0));
            run.refusedArgument(x -> x.read(file, 0));
        }
        run.due(124, x -> x.count(0));
        run.dueBytes();
        run.due(1, x -> x.make(1));
    }

    /** Promise 1, "nothing waits". */
    private static void nothingWaits() {
        Run run = new Run("Promise 1", "nothing waits");
        run.due(0, x -> x.count(2));
        run.due(0, x -> x.count(3));
        run.due(0, FileBody::finish);
        run.dueBytes();
    }

    private static void objectsAreApart() {
        Run run = new Run("the first of two objects");
        Run other = new Run("an object knows nothing of another");
        run.first(x -> x.make(0));
        run.first(x -> x.paint(1, 0, 4000, 1));
        other.due(0, x -> x.count(1));
        other.due(0, x -> x.count(3));
        other.due(124, x -> x.count(0));
        other.due(1, x -> x.make(0));
        other.due(1, x -> x.write(1, 0, 0, 1));
        run.due(4000, x -> x.about(1, 2));
        run.dueBody(1, Runs.painted(4000, 1));
    }

    /** What it is, "An object is used for at most 512 calls after it has been made". */
    private static void the512thCall() {
        Run run = new Run("What it is", "at most 512 calls");
        for (int i = 1; i <= 255; i++) {
            run.due(1, x -> x.make(0));
            run.due(1, FileBody::finish);
        }
        run.due(1, x -> x.make(1));
        run.due(4000, x -> x.paint(1, 0, 4000, 1));
    }
}
