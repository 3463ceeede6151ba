/** Terms: records, links in them, and the list of files that wait. */
public final class RecordTest {
    public static void main(String[] args) {
        wholeRecords();
        recordsOfFiles1To12();
        lowestByteFirst();
        kinds();
        theFileBehindIt();
        twiceTheNumberOfItsBlocks();
        blocksOfPieces0To14();
        targetOfAtMost59Bytes();
        allElseIs0();
        notThereIsAll0();
        theFirstFileThatWaits();
        comesFirst();
        aTargetOf1To1000Bytes();
        otherwiseInTheBlockOfPiece0();
        Run.end();
    }

    private static void wholeRecords() {
        Run run = new Run("bytes of records");
        run.first(x -> x.make(0));
        run.first(x -> x.make(300));
        run.first(x -> x.link(4, -1));
        run.first(x -> x.link(513, 0));
        run.first(x -> x.make(0));
        run.first(x -> x.paint(5, 1024, 2049, 1));
        run.dueBytes("0:232=5",
                "1:1=128",
                "1:257=128", "1:282=44", "1:283=1",
                "1:513=160", "1:516=4", "1:538=1", "1:552=255", "1:553=1", "1:554=2", "1:555=3",
                "1:769=160", "1:772=1", "1:773=2", "1:794=1", "1:796=2", "1:808=4",
                "2:1=128", "2:4=1", "2:5=12", "2:20=1", "2:28=6", "2:44=5", "2:48=6", "2:52=7");
    }

    /** Terms, "file n at byte 256 ((n - 1) modulo 4) of block 1 + (n - 1) / 4". */
    private static void recordsOfFiles1To12() {
        Run run = new Run("Terms", "of files 1 .. 12 (file n at byte 256 ((n - 1) modulo 4)"
                + " of block 1 + (n - 1) / 4)");
        String[] want = new String[24];
        for (int file = 1; file <= 12; file++) {
            int links = 100 + file;
            run.first(x -> x.make(links));
            int block = 1 + (file - 1) / 4;
            int start = 256 * ((file - 1) % 4);
            want[2 * file - 2] = block + ":" + (start + 1) + "=128";
            want[2 * file - 1] = block + ":" + (start + 26) + "=" + links;
        }
        run.dueBytes(want);
    }

    /** Terms, "numbers have their lowest byte first": those that need more than one byte. */
    private static void lowestByteFirst() {
        Run run = new Run("Terms", "In a RECORD numbers have their lowest byte first");
        run.first(x -> x.make(1000));
        run.first(x -> x.cut(1, 255));
        run.dueBytes("1:1=128", "1:4=255", "1:26=232", "1:27=3");
        run.first(x -> x.cut(1, 256));
        run.dueBytes("1:1=128", "1:5=1", "1:26=232", "1:27=3");
        run.first(x -> x.cut(1, 15359));
        run.dueBytes("1:1=128", "1:4=255", "1:5=59", "1:26=232", "1:27=3");
        run.first(x -> x.cut(1, 15360));
        run.dueBytes("1:1=128", "1:5=60", "1:26=232", "1:27=3");
    }

    /** Terms, "0x8000 for a plain file, 0xA000 for a link, 0 for none". */
    private static void kinds() {
        Run run = new Run("Terms", "0x8000 for a plain file, 0xA000 for a link, 0 for none");
        run.dueBytes();
        run.first(x -> x.make(0));
        run.first(x -> x.link(59, 1));
        run.first(x -> x.link(60, 1));
        int[] want = {128, 160, 160, 0};
        for (int i = 0; i < 4; i++) {
            int file = 1 + i;
            run.due(0, x -> x.byteOf(1, 256 * (file - 1)));
            run.due(want[file - 1], x -> x.byteOf(1, 256 * (file - 1) + 1));
        }
        run.first(x -> x.drop(1));
        run.due(0, x -> x.byteOf(1, 1));
    }

    /** Terms, "the file behind it [...] (0 for none, or when it does not wait)". */
    private static void theFileBehindIt() {
        Run run = new Run("Terms", "at 20 (4) the file behind it in the list of those that wait"
                + " (0 for none, or when it does not wait)");
        run.first(x -> x.make(0));
        run.dueBytes("0:232=1", "1:1=128");
        run.first(x -> x.make(0));
        run.first(x -> x.make(0));
        run.dueBytes("0:232=3", "1:1=128", "1:257=128", "1:276=1", "1:513=128", "1:532=2");
        run.first(x -> x.links(2, 1));
        run.dueBytes("0:232=3", "1:1=128", "1:257=128", "1:282=1", "1:513=128", "1:532=1");
        run.first(x -> x.links(3, 1));
        run.dueBytes("0:232=1", "1:1=128", "1:257=128", "1:282=1", "1:513=128", "1:538=1");
        run.first(x -> x.links(1, 1));
        run.dueBytes("1:1=128", "1:26=1", "1:257=128", "1:282=1", "1:513=128", "1:538=1");
    }

    /** Terms, "at 28 (4) twice the number of its blocks": from 0 to 15 of them. */
    private static void twiceTheNumberOfItsBlocks() {
        Run run = new Run("Terms", "at 28 (4) twice the number of its blocks");
        run.first(x -> x.make(1));
        run.due(0, x -> x.byteOf(1, 28));
        for (int i = 1; i <= 15; i++) {
            int had = i;
            run.first(x -> x.write(1, 1024 * (15 - had), 1, 1));
            run.due(2 * had, x -> x.byteOf(1, 28));
        }
        run.first(x -> x.write(1, 0, 1, 1));
        run.due(30, x -> x.byteOf(1, 28));
        run.first(x -> x.cut(1, 0));
        run.due(0, x -> x.byteOf(1, 28));
        run.first(x -> x.link(59, 1));
        run.due(0, x -> x.byteOf(1, 284));
        run.first(x -> x.link(60, 1));
        run.due(2, x -> x.byteOf(1, 540));
    }

    /** Terms, "the blocks of pieces 0 to 14, 4 bytes each, 0 for none". */
    private static void blocksOfPieces0To14() {
        Run run = new Run("Terms", "the blocks of pieces 0 to 14, 4 bytes each, 0 for none");
        run.first(x -> x.make(1));
        run.first(x -> x.write(1, 15359, 1, 1));
        run.dueBytes("1:1=128", "1:5=60", "1:26=1", "1:28=2", "1:96=4");
        run.first(x -> x.write(1, 0, 1, 1));
        run.dueBytes("1:1=128", "1:5=60", "1:26=1", "1:28=4", "1:40=5", "1:96=4");
        run.first(x -> x.cut(1, 1));
        run.dueBytes("1:1=128", "1:4=1", "1:26=1", "1:28=2", "1:40=5");

        Run all = new Run("Terms", "the blocks of pieces 0 to 14, 4 bytes each, 0 for none");
        Runs.takeBlocks(all, 15);
        String[] want = new String[20];
        want[0] = "1:1=128";
        want[1] = "1:4=1";
        want[2] = "1:5=56";
        want[3] = "1:26=1";
        want[4] = "1:28=30";
        for (int piece = 0; piece < 15; piece++) {
            want[5 + piece] = "1:" + (40 + 4 * piece) + "=" + (4 + piece);
        }
        all.dueBytes(want);
    }

    /** Terms, "or, of a link with a target of at most 59 bytes, these": from 40 to 98. */
    private static void targetOfAtMost59Bytes() {
        Run run = new Run("Terms", "or, of a link with a target of at most 59 bytes, these");
        run.first(x -> x.link(59, 100));
        String[] want = new String[62];
        want[0] = "1:1=160";
        want[1] = "1:4=59";
        want[2] = "1:26=1";
        for (int i = 0; i < 59; i++) {
            want[3 + i] = "1:" + (40 + i) + "=" + (101 + i);
        }
        run.dueBytes(want);

        Run small = new Run("Terms", "or, of a link with a target of at most 59 bytes, these");
        small.first(x -> x.link(1, 252));
        small.dueBytes("1:1=160", "1:4=1", "1:26=1", "1:40=253");

        Run longer = new Run("Terms", "or, of a link with a target of at most 59 bytes, these");
        longer.first(x -> x.link(60, 100));
        longer.dueBytes("1:1=160", "1:4=60", "1:26=1", "1:28=2", "1:40=4");
    }

    /** Terms, "All else is 0": where a longer target, or blocks, were before. */
    private static void allElseIs0() {
        Run run = new Run("Terms", "All else is 0.");
        run.first(x -> x.link(59, 1));
        run.first(x -> x.links(1, -1));
        run.first(x -> x.drop(1));
        run.first(x -> x.link(2, 1));
        run.dueBytes("1:1=160", "1:4=2", "1:26=1", "1:40=2", "1:41=3");
        run.first(x -> x.links(1, -1));
        run.first(x -> x.drop(1));
        run.first(x -> x.make(0));
        run.dueBytes("0:232=1", "1:1=128");
        run.first(x -> x.paint(1, 0, 4000, 1));
        run.first(x -> x.drop(1));
        run.first(x -> x.link(1, 1));
        run.dueBytes("1:1=160", "1:4=1", "1:26=1", "1:40=2");
    }

    /** Terms, "A record of a file that is not there is all 0": by drop, and by finish. */
    private static void notThereIsAll0() {
        Run run = new Run("Terms", "A record of a file that is not there is all 0.");
        run.dueBytes();
        run.first(x -> x.make(0));
        run.first(x -> x.make(0));
        run.first(x -> x.paint(2, 12000, 3360, 1));
        run.first(x -> x.drop(2));
        run.dueBytes("0:232=1", "1:1=128");
        run.first(x -> x.link(59, 200));
        run.first(x -> x.link(1000, 200));
        run.first(x -> x.links(2, -1));
        run.first(x -> x.links(3, -1));
        run.first(FileBody::finish);
        run.dueBytes();
    }

    /** Terms, "At byte 232 of block 0 (4 bytes) is the first file that waits, 0 for none". */
    private static void theFirstFileThatWaits() {
        Run run = new Run("Terms", "At byte 232 of block 0 (4 bytes) is the first file that waits,"
                + " 0 for none");
        run.due(0, x -> x.byteOf(0, 232));
        for (int i = 1; i <= 12; i++) {
            int file = i;
            run.first(x -> x.make(0));
            run.due(file, x -> x.byteOf(0, 232));
        }
        for (int i = 231; i <= 236; i++) {
            int at = i;
            run.due(at == 232 ? 12 : 0, x -> x.byteOf(0, at));
        }
        for (int i = 12; i >= 1; i--) {
            int file = i;
            run.first(x -> x.drop(file));
            run.due(file - 1, x -> x.byteOf(0, 232));
        }
        run.dueBytes();
    }

    /** Terms, "a file that comes to the list is its first one": also one that was in it before. */
    private static void comesFirst() {
        Run run = new Run("Terms", "a file that comes to the list is its first one");
        run.first(x -> x.make(0));
        run.first(x -> x.make(1));
        run.first(x -> x.make(0));
        run.due(3, x -> x.count(3));
        run.first(x -> x.links(2, -1));
        run.due(2, x -> x.count(3));
        run.due(3, x -> x.about(2, 5));
        run.due(1, x -> x.about(3, 5));
        run.first(x -> x.links(1, 5));
        run.first(x -> x.links(1, -5));
        run.due(1, x -> x.count(3));
        run.due(2, x -> x.about(1, 5));
        run.due(3, x -> x.about(2, 5));
        run.due(0, x -> x.about(3, 5));
    }

    /** Terms, "A LINK has a target, 1 to 1,000 bytes, and that as its size". */
    private static void aTargetOf1To1000Bytes() {
        Run run = new Run("Terms", "A LINK has a target, 1 to 1,000 bytes, and that as its size");
        run.refusedArgument(x -> x.link(0, 1));
        run.first(x -> x.link(1, 1));
        run.due(1, x -> x.about(1, 2));
        run.first(x -> x.link(1000, 1));
        run.due(1000, x -> x.about(2, 2));
        run.due(1000 % 256, x -> x.byteOf(1, 260));
        run.due(1000 / 256, x -> x.byteOf(1, 261));
        run.refusedArgument(x -> x.link(1001, 1));
    }

    /** Terms, "in the record, if it has at most 59 bytes, otherwise in the block of piece 0". */
    private static void otherwiseInTheBlockOfPiece0() {
        Run run = new Run("Terms", "in the record, if it has at most 59 bytes, otherwise in the"
                + " block of piece 0");
        run.first(x -> x.link(59, 1));
        run.due(124, x -> x.count(0));
        run.due(0, x -> x.about(1, 3));
        run.first(x -> x.link(60, 1));
        run.due(123, x -> x.count(0));
        run.due(1, x -> x.about(2, 3));
        run.due(4, x -> x.block(2, 0));
        run.first(x -> x.link(1000, 5));
        run.due(122, x -> x.count(0));
        run.due(1, x -> x.about(3, 3));
        run.due(5, x -> x.block(3, 0));
        run.due(0, x -> x.block(3, 1));
    }
}
