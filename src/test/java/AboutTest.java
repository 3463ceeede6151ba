/** Promise 11: about. */
public final class AboutTest {
    public static void main(String[] args) {
        ordinary();
        notThere();
        wrongInputs();
        Run.end();
    }

    private static void dueAll(Run run, int file, int... want) {
        for (int i = 0; i < want.length; i++) {
            int what = i;
            run.due(want[what], x -> x.about(file, what));
        }
    }

    private static void ordinary() {
        Run run = new Run("about");
        run.first(x -> x.make(7));
        run.first(x -> x.make(0));
        run.first(x -> x.make(0));
        run.first(x -> x.link(59, 1));
        run.first(x -> x.link(300, 1));
        run.first(x -> x.paint(1, 3000, 2000, 1));
        run.first(x -> x.write(3, 10, 1, 1));
        dueAll(run, 1, 1, 7, 5000, 3, 0, 0);
        dueAll(run, 2, 1, 0, 0, 0, 0, 0);
        dueAll(run, 3, 1, 0, 11, 1, 8, 2);
        dueAll(run, 4, 3, 1, 59, 0, 0, 0);
        dueAll(run, 5, 3, 1, 300, 1, 4, 0);
        run.first(x -> x.cut(1, 15360));
        dueAll(run, 1, 1, 7, 15360, 3, 0, 0);
    }

    private static void notThere() {
        Run run = new Run("about files that are not there");
        run.first(x -> x.make(0));
        run.first(x -> x.make(0));
        run.first(x -> x.paint(2, 0, 4000, 1));
        run.first(x -> x.drop(2));
        dueAll(run, 2, 0, 0, 0, 0, 0, 0);
        dueAll(run, 12, 0, 0, 0, 0, 0, 0);
    }

    private static void wrongInputs() {
        Run run = new Run("wrong inputs of about");
        run.first(x -> x.make(1));
        for (int i : new int[] {0, -1, 13, 14, Integer.MIN_VALUE, Integer.MAX_VALUE}) {
            run.refusedArgument(x -> x.about(i, 0));
            run.refusedArgument(x -> x.about(i, 5));
        }
        for (int what : new int[] {-1, 6, 7, Integer.MIN_VALUE, Integer.MAX_VALUE}) {
            run.refusedArgument(x -> x.about(1, what));
            run.refusedArgument(x -> x.about(12, what));
        }
    }
}
