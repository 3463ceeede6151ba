/** Promise 7: cut. */
public final class CutTest {
    public static void main(String[] args) {
        shorter();
        longer();
        edgesOfPieces();
        oldBytesStayAway();
        records();
        wrongInputs();
        Run.end();
    }

    private static Run painted(String name) {
        Run run = new Run(name);
        run.first(x -> x.make(1));
        run.first(x -> x.paint(1, 0, 4000, 1));
        return run;
    }

    private static void shorter() {
        Run run = painted("cut off");
        run.due(4000, x -> x.cut(1, 2500));
        run.due(2500, x -> x.about(1, 2));
        run.due(3, x -> x.about(1, 3));
        run.due(0, x -> x.block(1, 3));
        run.due(121, x -> x.count(0));
        int[] body = new int[2500];
        Runs.pattern(body, 0, 2500, 1);
        run.dueBody(1, body);
        run.due(2500, x -> x.cut(1, 2500));
        run.dueBody(1, body);
        run.due(2500, x -> x.cut(1, 0));
        run.due(0, x -> x.about(1, 3));
        run.due(124, x -> x.count(0));
        run.due(0, x -> x.cut(1, 0));
    }

    private static void longer() {
        Run run = new Run("made longer");
        run.first(x -> x.make(0));
        run.due(0, x -> x.cut(1, 15360));
        run.due(0, x -> x.about(1, 3));
        run.due(124, x -> x.count(0));
        run.dueBody(1, new int[15360]);
        run.due(15360, x -> x.cut(1, 15360));
        run.due(15360, x -> x.write(1, 5000, 9, 1));
        run.due(1, x -> x.about(1, 3));
        run.due(15360, x -> x.cut(1, 1));
        run.due(0, x -> x.about(1, 3));
    }

    private static void edgesOfPieces() {
        Run run = painted("cut at the edges of pieces");
        run.due(4000, x -> x.cut(1, 3073));
        run.due(7, x -> x.block(1, 3));
        run.due(3073, x -> x.cut(1, 3072));
        run.due(0, x -> x.block(1, 3));
        run.due(6, x -> x.block(1, 2));
        run.due(3072, x -> x.cut(1, 3071));
        run.due(6, x -> x.block(1, 2));
        run.due(3071, x -> x.cut(1, 1));
        run.due(4, x -> x.block(1, 0));
        run.due(0, x -> x.block(1, 1));
        run.due(123, x -> x.count(0));
    }

    private static void oldBytesStayAway() {
        Run run = painted("what was cut off does not come back");
        run.first(x -> x.cut(1, 1500));
        run.first(x -> x.cut(1, 4000));
        int[] body = new int[4000];
        Runs.pattern(body, 0, 1500, 1);
        run.dueBody(1, body);
        run.first(x -> x.write(1, 3999, 200, 1));
        body[3999] = 200;
        run.dueBody(1, body);

        Run written = painted("nor when it is written behind the cut");
        written.first(x -> x.cut(1, 10));
        written.first(x -> x.write(1, 1000, 3, 1));
        int[] rest = new int[1001];
        Runs.pattern(rest, 0, 10, 1);
        rest[1000] = 3;
        written.dueBody(1, rest);
    }

    private static void records() {
        Run run = painted("the record after cut");
        run.first(x -> x.cut(1, 1025));
        run.dueBytes("1:1=128", "1:4=1", "1:5=4", "1:26=1", "1:28=4", "1:40=4", "1:44=5");
        run.first(x -> x.cut(1, 0));
        run.dueBytes("1:1=128", "1:26=1");
    }

    private static void wrongInputs() {
        Run run = painted("wrong inputs of cut");
        run.first(x -> x.link(59, 1));
        run.first(x -> x.link(60, 1));
        for (int i : new int[] {0, -1, 2, 3, 4, 12, 13, Integer.MIN_VALUE, Integer.MAX_VALUE}) {
            run.refusedArgument(x -> x.cut(i, 0));
        }
        for (int size : new int[] {-1, 15361, Integer.MIN_VALUE, Integer.MAX_VALUE}) {
            run.refusedArgument(x -> x.cut(1, size));
        }
    }
}
