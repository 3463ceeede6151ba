/** Promise 14: byteOf, and what the bytes of records are. */
public final class ByteOfTest {
    public static void main(String[] args) {
        wholeRecords();
        placesOfRecords();
        allPieces();
        wrongInputs();
        Run.end();
    }

    private static void wholeRecords() {
        Run run = new Run("bytes of records");
        run.first(x -> x.make(0));
        run.first(x -> x.make(300));
        run.first(x -> x.link(4, -1));
        run.first(x -> x.link(513, 0));
        run.first(x -> x.make(0));
        run.first(x -> x.paint(5, 1024, 2049, 1));
        run.dueBytes("0:232=5",
                "1:1=128",
                "1:257=128", "1:282=44", "1:283=1",
                "1:513=160", "1:516=4", "1:538=1", "1:552=255", "1:553=1", "1:554=2", "1:555=3",
                "1:769=160", "1:772=1", "1:773=2", "1:794=1", "1:796=2", "1:808=4",
                "2:1=128", "2:4=1", "2:5=12", "2:20=1", "2:28=6", "2:44=5", "2:48=6", "2:52=7");
        run.due(255, x -> x.byteOf(1, 552));
        run.due(0, x -> x.byteOf(3, 1023));
    }

    private static void placesOfRecords() {
        Run run = new Run("places of records");
        for (int i = 1; i <= 12; i++) {
            run.first(x -> x.make(1));
        }
        for (int i = 1; i <= 12; i++) {
            int file = i;
            run.due(128, x -> x.byteOf(1 + (file - 1) / 4, 256 * ((file - 1) % 4) + 1));
            run.due(1, x -> x.byteOf(1 + (file - 1) / 4, 256 * ((file - 1) % 4) + 26));
        }
        run.first(x -> x.links(12, -1));
        run.due(12, x -> x.byteOf(0, 232));
        run.due(0, x -> x.byteOf(3, 768 + 26));
    }

    private static void allPieces() {
        Run run = new Run("a file with all pieces");
        Runs.takeBlocks(run, 15);
        String[] want = new String[20];
        want[0] = "1:1=128";
        want[1] = "1:4=1";
        want[2] = "1:5=56";
        want[3] = "1:26=1";
        want[4] = "1:28=30";
        for (int piece = 0; piece < 15; piece++) {
            want[5 + piece] = "1:" + (40 + 4 * piece) + "=" + (4 + piece);
        }
        run.dueBytes(want);
    }

    private static void wrongInputs() {
        Run run = new Run("wrong inputs of byteOf");
        run.first(x -> x.make(0));
        run.first(x -> x.paint(1, 0, 1024, 1));
        for (int block : new int[] {-1, 4, 5, 127, 128, Integer.MIN_VALUE, Integer.MAX_VALUE}) {
            run.refusedIndex(x -> x.byteOf(block, 0));
        }
        for (int i : new int[] {-1, 1024, 1025, Integer.MIN_VALUE, Integer.MAX_VALUE}) {
            run.refusedIndex(x -> x.byteOf(0, i));
            run.refusedIndex(x -> x.byteOf(3, i));
        }
        run.due(0, x -> x.byteOf(0, 0));
        run.due(0, x -> x.byteOf(0, 1023));
    }
}
