/** Promise 9: drop. */
public final class DropTest {
    public static void main(String[] args) {
        ordinary();
        targets();
        outOfTheList();
        wrongInputs();
        Run.end();
    }

    private static void ordinary() {
        Run run = new Run("drop");
        run.first(x -> x.make(0));
        run.first(x -> x.paint(1, 1000, 4000, 1));
        run.first(x -> x.write(1, 15359, 1, 1));
        run.due(118, x -> x.count(0));
        run.due(6, x -> x.drop(1));
        run.due(124, x -> x.count(0));
        run.due(0, x -> x.count(1));
        run.due(0, x -> x.count(2));
        run.due(0, x -> x.count(3));
        run.dueBytes();
        run.refusedArgument(x -> x.drop(1));
        run.due(1, x -> x.make(1));
        run.due(0, x -> x.about(1, 2));
    }

    private static void targets() {
        Run run = new Run("drop of links");
        run.first(x -> x.link(59, 3));
        run.first(x -> x.link(60, 3));
        run.refusedState(x -> x.drop(1));
        run.refusedState(x -> x.drop(2));
        run.first(x -> x.links(1, -1));
        run.first(x -> x.links(2, -1));
        run.due(0, x -> x.drop(1));
        run.due(123, x -> x.count(0));
        run.due(1, x -> x.drop(2));
        run.due(124, x -> x.count(0));
        run.dueBytes();
    }

    private static void outOfTheList() {
        for (int i = 1; i <= 4; i++) {
            int file = i;
            Run run = new Run("file " + file + " of the list 4 3 2 1 is dropped");
            for (int k = 1; k <= 4; k++) {
                run.first(x -> x.make(0));
            }
            run.due(0, x -> x.drop(file));
            run.due(3, x -> x.count(2));
            run.due(file == 4 ? 3 : 4, x -> x.count(3));
            for (int k = 2; k <= 4; k++) {
                int other = k;
                int behind = other - 1 == file ? other - 2 : other - 1;
                run.due(other == file ? 0 : behind, x -> x.about(other, 5));
            }
        }
    }

    private static void wrongInputs() {
        Run run = new Run("wrong inputs of drop");
        run.first(x -> x.make(1));
        run.first(x -> x.make(1000));
        run.first(x -> x.paint(1, 0, 4000, 1));
        run.refusedState(x -> x.drop(1));
        run.refusedState(x -> x.drop(2));
        for (int i : new int[] {0, -1, 3, 12, 13, Integer.MIN_VALUE, Integer.MAX_VALUE}) {
            run.refusedArgument(x -> x.drop(i));
        }
        run.first(x -> x.links(1, -1));
        run.due(4, x -> x.drop(1));
    }
}
