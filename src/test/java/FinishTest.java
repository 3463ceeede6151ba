/** Promise 10: finish. */
public final class FinishTest {
    public static void main(String[] args) {
        some();
        all();
        Run.end();
    }

    private static void some() {
        Run run = new Run("finish");
        run.due(0, FileBody::finish);
        run.first(x -> x.make(0));
        run.first(x -> x.make(1));
        run.first(x -> x.make(0));
        run.first(x -> x.link(60, 1));
        run.first(x -> x.paint(1, 0, 3000, 1));
        run.first(x -> x.paint(2, 0, 2000, 1));
        run.first(x -> x.links(4, -1));
        run.due(3, FileBody::finish);
        run.due(1, x -> x.count(1));
        run.due(0, x -> x.count(2));
        run.due(0, x -> x.count(3));
        run.due(122, x -> x.count(0));
        run.dueBytes("1:257=128", "1:260=208", "1:261=7", "1:282=1", "1:284=4", "1:296=8", "1:300=9");
        run.due(0, FileBody::finish);
        run.due(1, x -> x.make(0));
        run.due(1, FileBody::finish);
    }

    private static void all() {
        Run run = new Run("finish with all files");
        for (int i = 1; i <= 12; i++) {
            int file = i;
            run.first(x -> x.make(0));
            run.first(x -> x.paint(file, 0, 4000, 1));
        }
        run.due(76, x -> x.count(0));
        run.due(12, FileBody::finish);
        run.due(124, x -> x.count(0));
        run.dueBytes();
    }
}
