/** Promise 8: links. */
public final class LinksTest {
    public static void main(String[] args) {
        ordinary();
        listOrder();
        outOfTheList();
        wrongInputs();
        Run.end();
    }

    private static void ordinary() {
        Run run = new Run("links");
        run.first(x -> x.make(1));
        run.first(x -> x.link(5, 1));
        run.due(1000, x -> x.links(1, 999));
        run.due(232, x -> x.byteOf(1, 26));
        run.due(3, x -> x.byteOf(1, 27));
        run.due(1000, x -> x.links(1, 0));
        run.due(0, x -> x.count(2));
        run.due(0, x -> x.links(1, -1000));
        run.due(1, x -> x.count(3));
        run.due(0, x -> x.links(1, 0));
        run.due(1, x -> x.count(2));
        run.due(0, x -> x.about(1, 5));
        run.due(1000, x -> x.links(1, 1000));
        run.due(0, x -> x.count(2));
        run.due(0, x -> x.links(2, -1));
        run.due(2, x -> x.count(3));
        run.due(5, x -> x.read(2, 3));
    }

    private static void listOrder() {
        Run run = new Run("the order of the list");
        for (int i = 1; i <= 6; i++) {
            run.first(x -> x.make(1));
        }
        for (int file : new int[] {3, 6, 1, 5}) {
            run.due(0, x -> x.links(file, -1));
            run.due(file, x -> x.count(3));
        }
        run.due(4, x -> x.count(2));
        run.due(1, x -> x.about(5, 5));
        run.due(6, x -> x.about(1, 5));
        run.due(3, x -> x.about(6, 5));
        run.due(0, x -> x.about(3, 5));
        run.due(5, x -> x.byteOf(0, 232));
        run.due(1, x -> x.byteOf(2, 20));
        run.due(6, x -> x.byteOf(1, 20));
        run.due(3, x -> x.byteOf(2, 276));
    }

    private static void outOfTheList() {
        for (int i = 1; i <= 4; i++) {
            int file = i;
            Run run = new Run("file " + file + " of the list 4 3 2 1 gets links");
            for (int k = 1; k <= 4; k++) {
                run.first(x -> x.make(0));
            }
            run.due(2, x -> x.links(file, 2));
            run.due(3, x -> x.count(2));
            run.due(0, x -> x.about(file, 5));
            run.due(file == 4 ? 3 : 4, x -> x.count(3));
            for (int k = 2; k <= 4; k++) {
                int other = k;
                int behind = other - 1 == file ? other - 2 : other - 1;
                run.due(other == file ? 0 : behind, x -> x.about(other, 5));
            }
            run.due(0, x -> x.links(file, -2));
            run.due(file, x -> x.count(3));
            run.due(4, x -> x.count(2));
        }
    }

    private static void wrongInputs() {
        Run run = new Run("wrong inputs of links");
        run.first(x -> x.make(3));
        run.first(x -> x.make(0));
        run.first(x -> x.make(1000));
        for (int i : new int[] {0, -1, 4, 12, 13, Integer.MIN_VALUE, Integer.MAX_VALUE}) {
            run.refusedArgument(x -> x.links(i, 0));
        }
        for (int by : new int[] {-4, 998, Integer.MIN_VALUE, Integer.MAX_VALUE}) {
            run.refusedArgument(x -> x.links(1, by));
        }
        for (int by : new int[] {-1, 1001, Integer.MIN_VALUE, Integer.MAX_VALUE}) {
            run.refusedArgument(x -> x.links(2, by));
        }
        for (int by : new int[] {-1001, 1, Integer.MIN_VALUE, Integer.MAX_VALUE}) {
            run.refusedArgument(x -> x.links(3, by));
        }
        run.due(1000, x -> x.links(1, 997));
        run.due(0, x -> x.links(3, -1000));
    }
}
