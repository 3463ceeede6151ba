import com.sun.management.ThreadMXBean;
import java.lang.management.ManagementFactory;

/**
 * LANGUAGE.md's rule 12, "What a run makes is counted [...]: keep it small": a block's bytes are
 * made once, however often it is taken, and no call makes rows of its own.
 */
public final class RoomTest {
    /** All bytes of the volume are 131,072; the rest is for what holds them, and for 512 calls. */
    private static final long MOST_BYTES = 160_000;

    public static void main(String[] args) {
        if (!(ManagementFactory.getThreadMXBean() instanceof ThreadMXBean thread)
                || !thread.isThreadAllocatedMemorySupported()) {
            System.out.println("this machine does not count what is made: not tested");
            return;
        }
        thread.setThreadAllocatedMemoryEnabled(true);
        // Classes are loaded in the first run, and what that makes is not the run's own.
        made(thread);
        long made = made(thread);
        if (made > MOST_BYTES) {
            System.out.println("a run made " + made + " bytes, due are at most " + MOST_BYTES);
            System.exit(1);
        }
        System.out.println("a run makes as little as is due");
    }

    private static long made(ThreadMXBean thread) {
        long before = thread.getCurrentThreadAllocatedBytes();
        run(new FileBody());
        return thread.getCurrentThreadAllocatedBytes() - before;
    }

    /** 510 calls: nearly all blocks are taken and given back, ten times over. */
    private static void run(FileBody x) {
        for (int round = 0; round < 10; round++) {
            for (int i = 1; i <= 8; i++) {
                int file = x.make(0);
                for (int at = 0; at < 15360; at += 3840) {
                    x.paint(file, at, 3840, round);
                }
            }
            x.link(1000, round);
            x.write(1, 1020, round, 8);
            x.cut(2, 100);
            x.links(9, -1);
            x.read(9, 999);
            x.about(9, 5);
            x.block(8, 14);
            x.count(2);
            x.byteOf(3, 40);
            x.drop(4);
            x.finish();
        }
    }
}
