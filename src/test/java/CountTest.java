/** Promise 13: count. */
public final class CountTest {
    public static void main(String[] args) {
        Run run = new Run("count");
        dueAll(run, 124, 0, 0, 0);
        run.first(x -> x.make(1));
        run.first(x -> x.make(0));
        dueAll(run, 124, 2, 1, 2);
        run.first(x -> x.link(59, 1));
        run.first(x -> x.link(60, 1));
        dueAll(run, 123, 4, 1, 2);
        run.first(x -> x.paint(1, 0, 4000, 1));
        run.first(x -> x.links(4, -1));
        dueAll(run, 119, 4, 2, 4);
        run.first(x -> x.links(2, 1));
        dueAll(run, 119, 4, 1, 4);
        run.first(x -> x.cut(1, 1024));
        run.first(x -> x.drop(4));
        dueAll(run, 123, 3, 0, 0);
        for (int what : new int[] {-1, 4, 5, Integer.MIN_VALUE, Integer.MAX_VALUE}) {
            run.refusedArgument(x -> x.count(what));
        }

        Run full = new Run("count when no block is free");
        Runs.takeBlocks(full, 124);
        dueAll(full, 0, 9, 0, 0);

        Run all = new Run("count when all files wait");
        for (int i = 1; i <= 12; i++) {
            all.first(x -> x.make(0));
        }
        dueAll(all, 124, 12, 12, 12);
        Run.end();
    }

    private static void dueAll(Run run, int... want) {
        for (int i = 0; i < want.length; i++) {
            int what = i;
            run.due(want[what], x -> x.count(what));
        }
    }
}
