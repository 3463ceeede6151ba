import java.util.Random;
import java.util.function.ToIntFunction;

/** Many runs of 512 calls, the same every time, beside the model: all promises together. */
public final class RandomRunsTest {
    private static final int RUNS = 2000;
    private static final int CALLS = 512;
    private static final int[] EDGES = {
        Integer.MIN_VALUE, -1025, -1001, -1000, -256, -255, -1, 0, 1, 4, 5, 6, 8, 9, 12, 13, 14, 15,
        58, 59, 60, 61, 232, 255, 256, 999, 1000, 1001, 1022, 1023, 1024, 1025, 2047, 2048, 3999,
        4000, 4001, 11360, 11361, 14336, 15352, 15359, 15360, 15361, Integer.MAX_VALUE};

    private final Random random;
    private final FileBody x = new FileBody();
    private final Model model = new Model();
    /** How much of the run fills files, out of 100: full volumes and empty ones are both wanted. */
    private final int filling;
    /** Every other run begins with this many files whose pieces all have blocks. */
    private final int fullFiles;
    private int calls;
    private String call;

    private RandomRunsTest(int run) {
        random = new Random(run);
        filling = 10 + random.nextInt(60);
        fullFiles = run % 2 == 0 ? 0 : 7 + random.nextInt(2);
    }

    public static void main(String[] args) {
        for (int run = 1; run <= RUNS; run++) {
            RandomRunsTest test = new RandomRunsTest(run);
            while (test.calls < CALLS) {
                if (!test.step()) {
                    System.out.println("run " + run + ", call " + test.calls + ": " + test.call);
                    System.exit(1);
                }
            }
        }
        System.out.println("all answers are as due");
    }

    private boolean step() {
        if (calls < 5 * fullFiles) {
            return begin(1 + calls / 5, calls % 5);
        }
        int kind = random.nextInt(100);
        if (kind < filling) {
            return fill();
        }
        return kind % 3 == 0 ? change() : look();
    }

    /** Five calls make a file and write into all its pieces; random ones seldom fill a volume. */
    private boolean begin(int file, int which) {
        if (which == 0) {
            int links = random.nextInt(3);
            return same("make(" + links + ")", y -> y.make(links), y -> y.make(links));
        }
        int at = 11360 * (which - 1) / 3;
        return same("paint(" + file + ", " + at + ", 4000, " + file + ")",
                y -> y.paint(file, at, 4000, file), y -> y.paint(file, at, 4000, file));
    }

    private boolean fill() {
        int file = file();
        int n = random.nextInt(3) == 0 ? number(9) : 1 + random.nextInt(8);
        int at = random.nextInt(4) == 0 ? number(15361) : random.nextInt(15360);
        long bytes = random.nextLong();
        int many = random.nextInt(4) == 0 ? number(4001) : 1 + random.nextInt(4000);
        int seed = number(1000);
        switch (random.nextInt(6)) {
            case 0:
                return same("make(" + seed + ")", y -> y.make(seed), y -> y.make(seed));
            case 1:
                return same("link(" + many + ", " + seed + ")",
                        y -> y.link(many, seed), y -> y.link(many, seed));
            case 2:
                return same("write(" + file + ", " + at + ", " + bytes + ", " + n + ")",
                        y -> y.write(file, at, bytes, n), y -> y.write(file, at, bytes, n));
            default:
                return same("paint(" + file + ", " + at + ", " + many + ", " + seed + ")",
                        y -> y.paint(file, at, many, seed), y -> y.paint(file, at, many, seed));
        }
    }

    private boolean change() {
        int file = file();
        int size = number(15361);
        int by = random.nextBoolean() ? -random.nextInt(3) : number(3);
        int links = number(3);
        int length = random.nextBoolean() ? number(100) : number(1001);
        switch (random.nextInt(12)) {
            case 0:
            case 1:
                return same("cut(" + file + ", " + size + ")",
                        y -> y.cut(file, size), y -> y.cut(file, size));
            case 2:
            case 3:
                return same("drop(" + file + ")", y -> y.drop(file), y -> y.drop(file));
            case 4:
                return random.nextInt(4) != 0 || same("finish()", FileBody::finish, Model::finish);
            case 5:
            case 6:
                return same("make(" + links + ")", y -> y.make(links), y -> y.make(links));
            case 7:
                return same("link(" + length + ", " + size + ")",
                        y -> y.link(length, size), y -> y.link(length, size));
            default:
                return same("links(" + file + ", " + by + ")",
                        y -> y.links(file, by), y -> y.links(file, by));
        }
    }

    private boolean look() {
        int file = file();
        int what = number(7);
        int piece = number(15);
        int block = random.nextInt(9) == 0 ? number(5) : random.nextInt(4);
        int at = recordPlace();
        int size = model.about(1 + Math.floorMod(file - 1, 12), 2);
        int i = random.nextInt(5) == 0 ? number(15361) : random.nextInt(size + 2) - 1;
        switch (random.nextInt(6)) {
            case 0:
                return same("about(" + file + ", " + what + ")",
                        y -> y.about(file, what), y -> y.about(file, what));
            case 1:
                return same("block(" + file + ", " + piece + ")",
                        y -> y.block(file, piece), y -> y.block(file, piece));
            case 2:
                return same("count(" + what + ")", y -> y.count(what), y -> y.count(what));
            case 3:
                return same("byteOf(" + block + ", " + at + ")",
                        y -> y.byteOf(block, at), y -> y.byteOf(block, at));
            default:
                return same("read(" + file + ", " + i + ")",
                        y -> y.read(file, i), y -> y.read(file, i));
        }
    }

    private int file() {
        return random.nextInt(12) == 0 ? number(14) : 1 + random.nextInt(12);
    }

    private int number(int below) {
        if (random.nextInt(3) == 0) {
            return EDGES[random.nextInt(EDGES.length)];
        }
        return random.nextInt(50) == 0 ? random.nextInt() : random.nextInt(below);
    }

    private int recordPlace() {
        if (random.nextInt(6) == 0) {
            return number(1024);
        }
        return 256 * random.nextInt(4) + random.nextInt(104);
    }

    private boolean same(String name, ToIntFunction<FileBody> got, ToIntFunction<Model> due) {
        calls++;
        String answer = Run.answer(x, got::applyAsInt);
        String want = dueAnswer(due);
        call = name + " answered " + answer + ", due is " + want;
        return answer.equals(want);
    }

    private String dueAnswer(ToIntFunction<Model> due) {
        try {
            return Integer.toString(due.applyAsInt(model));
        } catch (RuntimeException e) {
            return "throws " + e.getClass().getName();
        }
    }
}
