/** Promise 2: make. */
public final class MakeTest {
    public static void main(String[] args) {
        ordinary();
        withoutLinks();
        leastNumber();
        allThere();
        wrongLinks();
        Run.end();
    }

    private static void ordinary() {
        Run run = new Run("make");
        run.due(1, x -> x.make(1));
        run.due(2, x -> x.make(1000));
        run.due(1, x -> x.about(1, 0));
        run.due(1, x -> x.about(1, 1));
        run.due(0, x -> x.about(1, 2));
        run.due(0, x -> x.about(1, 3));
        run.due(1000, x -> x.about(2, 1));
        run.due(0, x -> x.count(2));
        run.due(124, x -> x.count(0));
        run.dueBytes("1:1=128", "1:26=1", "1:257=128", "1:282=232", "1:283=3");
    }

    private static void withoutLinks() {
        Run run = new Run("make without links");
        run.due(1, x -> x.make(0));
        run.due(1, x -> x.count(2));
        run.due(1, x -> x.count(3));
        run.due(2, x -> x.make(0));
        run.due(2, x -> x.count(3));
        run.due(1, x -> x.about(2, 5));
        run.due(0, x -> x.about(1, 5));
        run.dueBytes("0:232=2", "1:1=128", "1:257=128", "1:276=1");
    }

    private static void leastNumber() {
        Run run = new Run("make takes the least number");
        for (int i = 1; i <= 5; i++) {
            run.first(x -> x.make(0));
        }
        run.first(x -> x.drop(4));
        run.first(x -> x.drop(2));
        run.due(2, x -> x.make(1));
        run.due(4, x -> x.make(1));
        run.due(6, x -> x.make(1));
    }

    private static void allThere() {
        Run run = new Run("make when all are there");
        for (int i = 1; i <= 12; i++) {
            int file = i;
            run.due(file, x -> x.make(file));
        }
        run.refusedState(x -> x.make(0));
        run.refusedState(x -> x.make(1000));
        run.refusedArgument(x -> x.make(1001));
        run.refusedArgument(x -> x.make(-1));
        run.first(x -> x.links(12, -12));
        run.first(x -> x.drop(12));
        run.due(12, x -> x.make(1));
    }

    private static void wrongLinks() {
        Run run = new Run("make with wrong links");
        run.refusedArgument(x -> x.make(-1));
        run.refusedArgument(x -> x.make(1001));
        run.refusedArgument(x -> x.make(Integer.MIN_VALUE));
        run.refusedArgument(x -> x.make(Integer.MAX_VALUE));
        run.due(1, x -> x.make(0));
    }
}
