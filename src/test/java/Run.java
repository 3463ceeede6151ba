import java.util.ArrayList;
import java.util.Arrays;
import java.util.List;

/**
 * A run of calls on a new FileBody, with the answers that are due.
 *
 * <p>The calls are kept, so that the whole state can be looked at on objects on which the same run
 * was made again: nothing is promised of an object after its 512th call.
 */
final class Run {
    interface Call {
        int on(FileBody x);
    }

    private static final int MOST_CALLS = 512;
    /** No call answers this. */
    private static final int THROWN = -1;
    private static int wrong = 0;

    private final String name;
    private final List<Call> calls = new ArrayList<>();
    private final FileBody x = new FileBody();
    /** What was seen after the last call, if that was one to be refused. */
    private List<String> last;

    /** A run for one sentence of the document: the heading over it ("Terms"), and its words. */
    Run(String heading, String sentence) {
        name = heading + ", \"" + sentence + "\"";
    }

    /** A run for no sentence alone. */
    Run(String name) {
        this.name = name;
    }

    /** A call that is due to answer this. */
    void due(int want, Call call) {
        String got = made(call);
        tell(got.equals(Integer.toString(want)), "answered " + got + ", due is " + want);
    }

    /** A call that is due to throw this very class, and to leave all as it was. */
    void refused(Class<? extends RuntimeException> want, Call call) {
        List<String> before = last == null ? picture() : last;
        calls.add(call);
        String got = answer(x, call);
        tell(got.equals("throws " + want.getName()), "answered " + got + ", due is " + want);
        last = picture();
        tell(before.equals(last), "a refused call changed something");
    }

    void refusedArgument(Call call) {
        refused(IllegalArgumentException.class, call);
    }

    void refusedState(Call call) {
        refused(IllegalStateException.class, call);
    }

    void refusedIndex(Call call) {
        refused(IndexOutOfBoundsException.class, call);
    }

    /** A part of the run whose answers other tests look at. */
    void first(Call call) {
        String got = made(call);
        tell(!got.startsWith("throws"), "answered " + got + ", due is a number");
    }

    /** All bytes of blocks 0 to 3 that are not 0, as "block:byte=value", are due to be these. */
    void dueBytes(String... want) {
        List<String> got = new ArrayList<>();
        Looker looker = new Looker();
        for (int block = 0; block < 4; block++) {
            for (int i = 0; i < 1024; i++) {
                int value = looker.look(byteCall(block, i));
                if (value != 0) {
                    got.add(block + ":" + i + "=" + value);
                }
            }
        }
        tell(got.equals(Arrays.asList(want)), "bytes are " + got + ", due are " + Arrays.asList(want));
    }

    /** The bytes of a file from 0 to its size, as read() answers them. */
    int[] bytesOf(int file) {
        Looker looker = new Looker();
        int[] bytes = new int[Math.max(looker.look(y -> y.about(file, 2)), 0)];
        for (int i = 0; i < bytes.length; i++) {
            bytes[i] = looker.look(readCall(file, i));
        }
        return bytes;
    }

    void dueBody(int file, int[] want) {
        int[] got = bytesOf(file);
        int at = Arrays.mismatch(got, want);
        tell(at < 0, "the bytes of file " + file + " differ from those due at " + at);
    }

    static void end() {
        System.out.println(wrong == 0 ? "all answers are as due" : wrong + " answers are not as due");
        if (wrong != 0) {
            System.exit(1);
        }
    }

    static String answer(FileBody x, Call call) {
        try {
            return Integer.toString(call.on(x));
        } catch (RuntimeException e) {
            return "throws " + e.getClass().getName();
        }
    }

    private void tell(boolean right, String what) {
        if (!right) {
            wrong++;
            System.out.println(name + ", call " + calls.size() + ": " + what);
        }
    }

    private String made(Call call) {
        calls.add(call);
        last = null;
        return answer(x, call);
    }

    /** All that calls can tell of the state now, or later. */
    private List<String> picture() {
        List<String> seen = new ArrayList<>();
        addCountsAndRecords(seen);
        addBodies(seen);
        addBlocksOfLaterWrites(seen);
        return seen;
    }

    private void addCountsAndRecords(List<String> seen) {
        Looker looker = new Looker();
        for (int what = 0; what < 4; what++) {
            int asked = what;
            seen.add("count " + looker.look(y -> y.count(asked)));
        }
        for (int block = 0; block < 4; block++) {
            for (int i = 0; i < 1024; i++) {
                addByte(seen, block + ":" + i, looker.look(byteCall(block, i)));
            }
        }
    }

    /** The files are made longer first, so that bytes behind their sizes are seen too. */
    private void addBodies(List<String> seen) {
        Looker looker = new Looker();
        for (int file = 1; file <= 12; file++) {
            int asked = file;
            looker.before(y -> y.cut(asked, 15360));
        }
        for (int file = 1; file <= 12; file++) {
            int asked = file;
            int size = looker.look(y -> y.about(asked, 2));
            for (int i = 0; i < size; i++) {
                addByte(seen, "file " + file + ":" + i, looker.look(readCall(file, i)));
            }
        }
    }

    private void addBlocksOfLaterWrites(List<String> seen) {
        Looker looker = new Looker();
        looker.before(y -> y.make(1));
        for (int i = 0; i < 12 * 15; i++) {
            int file = 1 + i / 15;
            int piece = i % 15;
            looker.before(y -> y.write(file, 1024 * piece, 0, 1));
        }
        for (int block = 1; block < 4; block++) {
            for (int i = 0; i < 1024; i++) {
                addByte(seen, "later " + block + ":" + i, looker.look(byteCall(block, i)));
            }
        }
    }

    /** 0s, which most bytes are, are left out: these pictures are taken very often. */
    private static void addByte(List<String> seen, String place, int value) {
        if (value != 0) {
            seen.add(place + "=" + value);
        }
    }

    private static Call byteCall(int block, int i) {
        return y -> y.byteOf(block, i);
    }

    private static Call readCall(int file, int i) {
        return y -> y.read(file, i);
    }

    /** Looks at the state after the run, with a new object whenever one has had its calls. */
    private final class Looker {
        private final List<Call> first = new ArrayList<>(calls);
        private FileBody y;
        private int made = MOST_CALLS;

        /** A call that is made behind the run and before all looks, whatever it answers. */
        void before(Call call) {
            first.add(call);
            if (first.size() >= MOST_CALLS) {
                throw new IllegalStateException("the run is too long to be looked at");
            }
        }

        /** The answer, or THROWN: a wrong answer here is told by the test of its own promise. */
        int look(Call call) {
            if (made >= MOST_CALLS) {
                y = new FileBody();
                for (Call before : first) {
                    answer(y, before);
                }
                made = first.size();
            }
            made++;
            try {
                return call.on(y);
            } catch (RuntimeException e) {
                return THROWN;
            }
        }
    }
}
