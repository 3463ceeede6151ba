/** Promise 1: no files; nothing waits. */
public final class NewObjectTest {
    public static void main(String[] args) {
        Run run = new Run("a new object");
        run.dueBytes();
        run.due(124, x -> x.count(0));
        run.due(0, x -> x.count(1));
        run.due(0, x -> x.count(2));
        run.due(0, x -> x.count(3));
        run.due(0, FileBody::finish);
        for (int i = 1; i <= 12; i++) {
            int file = i;
            run.due(0, x -> x.about(file, 0));
            run.refusedArgument(x -> x.read(file, 0));
        }
        run.due(1, x -> x.make(1));

        Run other = new Run("another new object knows nothing of the first");
        other.due(0, x -> x.count(1));
        Run.end();
    }
}
