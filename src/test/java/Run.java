import java.util.ArrayList;
import java.util.Arrays;
import java.util.List;

/**
 * A run of calls on a new FileBody, with the answers that are due.
 *
 * <p>The calls are kept, so that the whole state can be looked at on objects on which the same run
 * was made again: nothing is promised of an object after its 512th call.
 */
final class Run {
    interface Call {
        int on(FileBody x);
    }

    private static final int MOST_CALLS = 512;
    private static int wrong = 0;

    private final String name;
    private final List<Call> calls = new ArrayList<>();
    private final FileBody x = new FileBody();

    Run(String name) {
        this.name = name;
    }

    /** A call that is due to answer this. */
    void due(int want, Call call) {
        calls.add(call);
        String got = answer(x, call);
        tell(got.equals(Integer.toString(want)), "answered " + got + ", due is " + want);
    }

    /** A call that is due to throw this very class, and to leave all as it was. */
    void refused(Class<? extends RuntimeException> want, Call call) {
        int[] before = picture();
        calls.add(call);
        String got = answer(x, call);
        tell(got.equals("throws " + want.getName()), "answered " + got + ", due is " + want);
        tell(Arrays.equals(before, picture()), "a refused call changed something");
    }

    void refusedArgument(Call call) {
        refused(IllegalArgumentException.class, call);
    }

    void refusedState(Call call) {
        refused(IllegalStateException.class, call);
    }

    void refusedIndex(Call call) {
        refused(IndexOutOfBoundsException.class, call);
    }

    /** A part of the run whose answers other tests look at. */
    void first(Call call) {
        calls.add(call);
        String got = answer(x, call);
        tell(!got.startsWith("throws"), "answered " + got + ", due is a number");
    }

    /** All bytes of blocks 0 to 3 that are not 0, as "block:byte=value", are due to be these. */
    void dueBytes(String... want) {
        List<String> got = new ArrayList<>();
        Looker looker = new Looker();
        for (int block = 0; block < 4; block++) {
            for (int i = 0; i < 1024; i++) {
                int value = looker.look(byteCall(block, i));
                if (value != 0) {
                    got.add(block + ":" + i + "=" + value);
                }
            }
        }
        tell(got.equals(Arrays.asList(want)), "bytes are " + got + ", due are " + Arrays.asList(want));
    }

    /** The bytes of a file from 0 to its size, as read() answers them. */
    int[] bytesOf(int file) {
        Looker looker = new Looker();
        int[] bytes = new int[looker.look(y -> y.about(file, 2))];
        for (int i = 0; i < bytes.length; i++) {
            bytes[i] = looker.look(readCall(file, i));
        }
        return bytes;
    }

    void dueBody(int file, int[] want) {
        int[] got = bytesOf(file);
        int at = Arrays.mismatch(got, want);
        tell(at < 0, "the bytes of file " + file + " differ from those due at " + at);
    }

    static void end() {
        System.out.println(wrong == 0 ? "all answers are as due" : wrong + " answers are not as due");
        if (wrong != 0) {
            System.exit(1);
        }
    }

    static String answer(FileBody x, Call call) {
        try {
            return Integer.toString(call.on(x));
        } catch (RuntimeException e) {
            return "throws " + e.getClass().getName();
        }
    }

    private void tell(boolean right, String what) {
        if (!right) {
            wrong++;
            System.out.println(name + ", call " + calls.size() + ": " + what);
        }
    }

    private int[] picture() {
        Looker looker = new Looker();
        List<Integer> seen = new ArrayList<>();
        for (int what = 0; what < 4; what++) {
            int asked = what;
            seen.add(looker.look(y -> y.count(asked)));
        }
        for (int block = 0; block < 4; block++) {
            for (int i = 0; i < 1024; i++) {
                seen.add(looker.look(byteCall(block, i)));
            }
        }
        for (int file = 1; file <= 12; file++) {
            int asked = file;
            int size = looker.look(y -> y.about(asked, 2));
            for (int i = 0; i < size; i += 41) {
                seen.add(looker.look(readCall(file, i)));
            }
        }
        return seen.stream().mapToInt(Integer::intValue).toArray();
    }

    private static Call byteCall(int block, int i) {
        return y -> y.byteOf(block, i);
    }

    private static Call readCall(int file, int i) {
        return y -> y.read(file, i);
    }

    /** Looks at the state after the run, with a new object whenever one has had its calls. */
    private final class Looker {
        private FileBody y;
        private int made = MOST_CALLS;

        int look(Call call) {
            if (made >= MOST_CALLS) {
                y = new FileBody();
                for (Call before : calls) {
                    answer(y, before);
                }
                made = calls.size();
            }
            made++;
            return call.on(y);
        }
    }
}
