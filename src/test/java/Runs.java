/** Beginnings of runs that several tests share. */
final class Runs {
    private Runs() {
    }

    /** On a new object: takes so many blocks, 15 for each of the files 1, 2 and so on. */
    static void takeBlocks(Run run, int n) {
        int left = n;
        for (int i = 1; left > 0; i++) {
            int file = i;
            run.due(file, x -> x.make(1));
            for (int piece = 0; piece < 15 && left > 0; piece++) {
                int at = 1024 * piece;
                run.due(at + 1, x -> x.write(file, at, 1, 1));
                left--;
            }
        }
        run.due(124 - n, x -> x.count(0));
    }

    /** What paint() puts into n bytes of a body from a place on. */
    static void pattern(int[] body, int at, int n, int seed) {
        for (int i = 0; i < n; i++) {
            body[at + i] = (int) Math.floorMod((long) seed + 7L * i, 256L);
        }
    }
}
