/** Beginnings of runs, and wrong inputs, that several tests share. */
final class Runs {
    private static final int MIN = Integer.MIN_VALUE;
    private static final int MAX = Integer.MAX_VALUE;

    private Runs() {
    }

    /** Numbers that no file has; 256 times the last two wraps to the records of files 1 and 12. */
    static int[] noFiles() {
        return new int[] {MIN, -1, 0, 13, 14, MAX, (1 << 24) + 1, (1 << 24) + 12};
    }

    /** On a new object: makes so many files with one link each. */
    static void makeFiles(Run run, int n) {
        for (int i = 1; i <= n; i++) {
            int file = i;
            run.due(file, x -> x.make(1));
        }
    }

    /** On a new object: takes so many blocks, 15 for each of the files 1, 2 and so on. */
    static void takeBlocks(Run run, int n) {
        int left = n;
        for (int i = 1; left > 0; i++) {
            int file = i;
            run.due(file, x -> x.make(1));
            for (int piece = 0; piece < 15 && left > 0; piece++) {
                int at = 1024 * piece;
                run.due(at + 1, x -> x.write(file, at, 1, 1));
                left--;
            }
        }
        run.due(124 - n, x -> x.count(0));
    }

    /** What paint() puts into n bytes of a body from a place on. */
    static void pattern(int[] body, int at, int n, int seed) {
        for (int i = 0; i < n; i++) {
            body[at + i] = (int) Math.floorMod((long) seed + 7L * i, 256L);
        }
    }

    /** A body of so many bytes that are painted from 0 on. */
    static int[] painted(int n, int seed) {
        int[] body = new int[n];
        pattern(body, 0, n, seed);
        return body;
    }
}
