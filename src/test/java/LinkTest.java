/** Promise 3: link. */
public final class LinkTest {
    private static final int MIN = Integer.MIN_VALUE;
    private static final int MAX = Integer.MAX_VALUE;
    private static final int[] LENGTHS = {1, 2, 58, 59, 60, 61, 999, 1000};

    public static void main(String[] args) {
        with1Link();
        targetBytes();
        aSumThatWraps();
        alsoForOneBelow0();
        itsNumber();
        nIsNot1To1000();
        allAreThere();
        noneIsFree();
        Run.end();
    }

    /** Promise 3, "A new link with 1 link": so that it does not wait. */
    private static void with1Link() {
        for (int n : LENGTHS) {
            Run run = new Run("Promise 3", "A new link with 1 link");
            run.due(1, x -> x.link(n, 0));
            run.due(3, x -> x.about(1, 0));
            run.due(1, x -> x.about(1, 1));
            run.due(n, x -> x.about(1, 2));
            run.due(0, x -> x.count(2));
        }
    }

    /** Promise 3, "byte i is 1 + (seed + i) modulo 255": 255 is followed by 1. */
    private static void targetBytes() {
        Run run = new Run("Promise 3", "byte i is 1 + (seed + i) modulo 255");
        run.first(x -> x.link(4, 252));
        run.dueBody(1, new int[] {253, 254, 255, 1});
        run.first(x -> x.link(2, 0));
        run.dueBody(2, new int[] {1, 2});
        run.first(x -> x.link(1, 254));
        run.dueBody(3, new int[] {255});
        run.first(x -> x.link(1, 255));
        run.dueBody(4, new int[] {1});
        for (int seed : new int[] {0, 1, 253, 254, 255, 256, 509, 510, 12345}) {
            dueTargets("byte i is 1 + (seed + i) modulo 255", seed);
        }
    }

    /** Promise 3, "a sum that wraps": 2147483647 is 127 modulo 255, and -2147483648 also 127. */
    private static void aSumThatWraps() {
        Run run = new Run("Promise 3", "a sum that wraps");
        run.first(x -> x.link(4, MAX - 1));
        run.dueBody(1, new int[] {127, 128, 128, 129});
        run.first(x -> x.link(60, MAX));
        run.due(128, x -> x.read(2, 0));
        run.due(128, x -> x.read(2, 1));
        run.due(129, x -> x.read(2, 2));
        for (int back : new int[] {0, 1, 20, 58, 59, 60, 998, 999}) {
            dueTargets("a sum that wraps", MAX - back);
        }
    }

    /** Promise 3, "0 .. 254 also for one below 0". */
    private static void alsoForOneBelow0() {
        Run run = new Run("Promise 3", "0 .. 254 also for one below 0");
        run.first(x -> x.link(3, -1));
        run.dueBody(1, new int[] {255, 1, 2});
        run.first(x -> x.link(2, -255));
        run.dueBody(2, new int[] {1, 2});
        run.first(x -> x.link(2, -256));
        run.dueBody(3, new int[] {255, 1});
        run.first(x -> x.link(2, MIN));
        run.dueBody(4, new int[] {128, 129});
        for (int seed : new int[] {-1, -3, -59, -254, -255, -256, -510, -1000, MIN, MIN + 7}) {
            dueTargets("0 .. 254 also for one below 0", seed);
        }
    }

    /** Targets of all lengths, by sums in 64 bits that are cut to 32 by hand. */
    private static void dueTargets(String sentence, int seed) {
        for (int n : LENGTHS) {
            int[] target = new int[n];
            for (int i = 0; i < n; i++) {
                long sum = (long) seed + i;
                long wrapped = sum > MAX ? sum - (1L << 32) : sum;
                target[i] = (int) (1 + (wrapped % 255 + 255) % 255);
            }
            Run run = new Run("Promise 3", sentence + ": link(" + n + ", " + seed + ")");
            run.due(1, x -> x.link(n, seed));
            run.dueBody(1, target);
        }
    }

    /** Promise 3, "its number": the least that is not there, as that of make. */
    private static void itsNumber() {
        Run run = new Run("Promise 3", "its number");
        for (int i = 1; i <= 12; i++) {
            int file = i;
            run.due(file, x -> x.link(5 * file, 1));
        }
        for (int file : new int[] {12, 3, 1}) {
            run.first(x -> x.links(file, -1));
            run.first(x -> x.drop(file));
        }
        run.due(1, x -> x.link(59, 1));
        run.due(3, x -> x.link(60, 1));
        run.due(12, x -> x.link(1000, 1));
    }

    /** Promise 3, "n is not 1 .. 1000". */
    private static void nIsNot1To1000() {
        Run run = new Run("Promise 3", "IllegalArgumentException: n is not 1 .. 1000");
        for (int n : new int[] {0, -1, 1001, 1024, 1025, -1000, MIN, MAX}) {
            run.refusedArgument(x -> x.link(n, 1));
        }
        run.due(1, x -> x.link(1, 1));
        run.due(2, x -> x.link(1000, 1));
    }

    /** Promise 3, "all are there". */
    private static void allAreThere() {
        Run run = new Run("Promise 3", "IllegalStateException: all are there");
        Runs.makeFiles(run, 12);
        for (int n : new int[] {1, 59, 60, 1000}) {
            run.refusedState(x -> x.link(n, 0));
        }
        run.first(x -> x.links(12, -1));
        run.refusedState(x -> x.link(1, 0));
        run.first(x -> x.drop(12));
        run.due(12, x -> x.link(1, 0));
        run.refusedState(x -> x.link(1, 0));
    }

    /** Promise 3, "or a block is wanted and none is free": short targets want none. */
    private static void noneIsFree() {
        Run run = new Run("Promise 3", "or a block is wanted and none is free");
        Runs.takeBlocks(run, 123);
        run.due(10, x -> x.link(60, 0));
        run.due(127, x -> x.block(10, 0));
        run.refusedState(x -> x.link(60, 0));
        run.refusedState(x -> x.link(1000, 0));
        run.due(11, x -> x.link(59, 0));
        run.refusedState(x -> x.link(60, 0));
        run.first(x -> x.cut(1, 14 * 1024));
        run.due(12, x -> x.link(60, 0));
        run.due(18, x -> x.block(12, 0));
    }
}
