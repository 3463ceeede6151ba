import java.util.Arrays;

/**
 * Bodies of files in the records and blocks of a volume.
 *
 * <p>The bytes of blocks 0 to 3 are the state itself, in the document's own form: nothing of a
 * record or of the list of files that wait is held a second time elsewhere.
 */
public final class FileBody {
    /** No file, no block, no kind: there is no file 0, block 0 is never free, and no kind is 0. */
    private static final int NONE = 0;

    private static final int BLOCKS = 128;
    private static final int BLOCK_BYTES = 1024;
    private static final int FIRST_DATA_BLOCK = 4;

    private static final int FILES = 12;
    private static final int PIECES = 15;
    private static final int MOST_BYTES = PIECES * BLOCK_BYTES;
    private static final int MOST_LINKS = 1000;
    private static final int MOST_WRITTEN = 8;
    private static final int MOST_PAINTED = 4000;
    private static final int PATTERN_STEP = 7;
    private static final int MOST_TARGET = 1000;
    private static final int MOST_TARGET_IN_RECORD = 59;

    private static final int PLAIN = 1;
    private static final int LINK = 3;

    private final Front front;
    private final DataBlocks blocks;
    private final Records records;
    private final Waiting waiting;
    private final Bodies bodies;

    public FileBody() {
        front = new Front();
        blocks = new DataBlocks();
        records = new Records(front);
        waiting = new Waiting(front, records);
        bodies = new Bodies(blocks, records);
    }

    public int make(int links) throws IllegalArgumentException, IllegalStateException {
        if (links < 0 || links > MOST_LINKS) {
            throw new IllegalArgumentException("links is not 0 .. 1000");
        }
        int file = records.leastAbsent();
        if (file == NONE) {
            throw new IllegalStateException("all files are there");
        }
        records.begin(file, PLAIN, links);
        if (links == 0) {
            waiting.add(file);
        }
        return file;
    }

    public int link(int n, int seed) throws IllegalArgumentException, IllegalStateException {
        if (n < 1 || n > MOST_TARGET) {
            throw new IllegalArgumentException("n is not 1 .. 1000");
        }
        int file = records.leastAbsent();
        if (file == NONE) {
            throw new IllegalStateException("all files are there");
        }
        if (n > MOST_TARGET_IN_RECORD && blocks.howManyFree() == 0) {
            throw new IllegalStateException("no block is free for the target");
        }
        records.begin(file, LINK, 1);
        records.setSize(file, n);
        bodies.setTarget(file, n, seed);
        return file;
    }

    public int write(int file, int at, long bytes, int n)
            throws IllegalArgumentException, IllegalStateException {
        checkSpan(file, at, n, MOST_WRITTEN);
        checkFreeBlocks(file, at, n);
        bodies.prepare(file, at, n);
        bodies.setBytes(file, at, bytes, n);
        return records.sizeOf(file);
    }

    public int paint(int file, int at, int n, int seed)
            throws IllegalArgumentException, IllegalStateException {
        checkSpan(file, at, n, MOST_PAINTED);
        checkFreeBlocks(file, at, n);
        bodies.prepare(file, at, n);
        bodies.setPattern(file, at, n, seed);
        return records.sizeOf(file);
    }

    public int read(int file, int i) throws IllegalArgumentException, IndexOutOfBoundsException {
        checkThere(file);
        if (i < 0 || i >= records.sizeOf(file)) {
            throw new IndexOutOfBoundsException("i is not 0 .. size less 1");
        }
        return bodies.byteAt(file, i);
    }

    public int cut(int file, int size) throws IllegalArgumentException {
        checkPlain(file);
        if (size < 0 || size > MOST_BYTES) {
            throw new IllegalArgumentException("size is not 0 .. 15360");
        }
        int before = records.sizeOf(file);
        bodies.resize(file, size);
        return before;
    }

    public int links(int file, int by) throws IllegalArgumentException {
        checkThere(file);
        int before = records.linksOf(file);
        // Compared this way round because before + by may wrap.
        if (by < -before || by > MOST_LINKS - before) {
            throw new IllegalArgumentException("links would not be 0 .. 1000");
        }
        int after = before + by;
        records.setLinks(file, after);
        if (before != 0 && after == 0) {
            waiting.add(file);
        }
        if (before == 0 && after != 0) {
            waiting.remove(file);
        }
        return after;
    }

    public int drop(int file) throws IllegalArgumentException, IllegalStateException {
        checkThere(file);
        if (records.linksOf(file) != 0) {
            throw new IllegalStateException("the file has links");
        }
        return letGo(file);
    }

    public int finish() {
        int gone = 0;
        while (gone < FILES && waiting.first() != NONE) {
            letGo(waiting.first());
            gone++;
        }
        return gone;
    }

    public int about(int file, int what) throws IllegalArgumentException {
        if (!records.isNumber(file)) {
            throw new IllegalArgumentException("file is not 1 .. 12");
        }
        switch (what) {
            case 0:
                return records.kindOf(file);
            case 1:
                return records.linksOf(file);
            case 2:
                return records.sizeOf(file);
            case 3:
                return records.blocksOf(file);
            case 4:
                return records.blockOf(file, 0);
            case 5:
                return records.behind(file);
            default:
                throw new IllegalArgumentException("what is not 0 .. 5");
        }
    }

    public int block(int file, int piece) throws IllegalArgumentException {
        checkThere(file);
        if (piece < 0 || piece >= PIECES) {
            throw new IllegalArgumentException("piece is not 0 .. 14");
        }
        return records.blockOf(file, piece);
    }

    public int count(int what) throws IllegalArgumentException {
        switch (what) {
            case 0:
                return blocks.howManyFree();
            case 1:
                return records.howManyThere();
            case 2:
                return waiting.howMany();
            case 3:
                return waiting.first();
            default:
                throw new IllegalArgumentException("what is not 0 .. 3");
        }
    }

    public int byteOf(int block, int i) throws IndexOutOfBoundsException {
        if (block < 0 || block >= FIRST_DATA_BLOCK) {
            throw new IndexOutOfBoundsException("block is not 0 .. 3");
        }
        if (i < 0 || i >= BLOCK_BYTES) {
            throw new IndexOutOfBoundsException("i is not 0 .. 1023");
        }
        return front.number(block * BLOCK_BYTES + i, 1);
    }

    private void checkThere(int file) {
        if (records.kindOf(file) == NONE) {
            throw new IllegalArgumentException("there is no such file");
        }
    }

    private void checkPlain(int file) {
        if (records.kindOf(file) != PLAIN) {
            throw new IllegalArgumentException("there is no such plain file");
        }
    }

    private void checkSpan(int file, int at, int n, int most) {
        checkPlain(file);
        if (n < 1 || n > most) {
            throw new IllegalArgumentException("so many bytes can't be written at once");
        }
        // Compared this way round because at + n may wrap.
        if (at < 0 || at > MOST_BYTES - n) {
            throw new IllegalArgumentException("the place is not in a file");
        }
    }

    private void checkFreeBlocks(int file, int at, int n) {
        if (bodies.blocksWanted(file, at, n) > blocks.howManyFree()) {
            throw new IllegalStateException("fewer blocks are free than are wanted");
        }
    }

    private int letGo(int file) {
        int had = records.blocksOf(file);
        waiting.remove(file);
        bodies.giveBack(file, 0);
        records.erase(file);
        return had;
    }

    /** Blocks 0 to 3, which are never free: bytes, and numbers with their lowest byte first. */
    private static final class Front {
        private final byte[] bytes = new byte[FIRST_DATA_BLOCK * BLOCK_BYTES];

        int number(int at, int length) {
            int value = 0;
            for (int i = at + length - 1; i >= at; i--) {
                if (i >= 0 && i < bytes.length) {
                    value = value << 8 | bytes[i] & 0xFF;
                }
            }
            return value;
        }

        void setNumber(int at, int length, int value) {
            int rest = value;
            for (int i = at; i < at + length; i++) {
                if (i >= 0 && i < bytes.length) {
                    bytes[i] = (byte) rest;
                }
                rest = rest >>> 8;
            }
        }
    }

    /** The blocks from 4 on: their bytes, and which of them are free. */
    private static final class DataBlocks {
        /** A row is made when its block is first taken and then kept, so that few are ever made. */
        private final byte[][] rows = new byte[BLOCKS][];
        private final boolean[] taken = new boolean[BLOCKS];
        private int free = BLOCKS - FIRST_DATA_BLOCK;

        int howManyFree() {
            return free;
        }

        /** A free block, now taken and all of 0s; NONE if there is no free one. */
        int take(int goal) {
            int block = leastFree(goal);
            if (block == NONE) {
                block = leastFree(FIRST_DATA_BLOCK);
            }
            if (block == NONE) {
                return NONE;
            }
            if (rows[block] == null) {
                rows[block] = new byte[BLOCK_BYTES];
            } else {
                Arrays.fill(rows[block], (byte) 0);
            }
            taken[block] = true;
            free--;
            return block;
        }

        void give(int block) {
            if (block >= FIRST_DATA_BLOCK && block < BLOCKS && taken[block]) {
                taken[block] = false;
                free++;
            }
        }

        int byteAt(int block, int i) {
            return hasSpan(block, i, i + 1) ? rows[block][i] & 0xFF : 0;
        }

        void setByte(int block, int i, int value) {
            if (hasSpan(block, i, i + 1)) {
                rows[block][i] = (byte) value;
            }
        }

        void clear(int block, int from, int to) {
            if (hasSpan(block, from, to)) {
                Arrays.fill(rows[block], from, to, (byte) 0);
            }
        }

        void setPattern(int block, int from, int to, int first) {
            if (!hasSpan(block, from, to)) {
                return;
            }
            byte[] row = rows[block];
            int value = first;
            for (int i = from; i < to; i++) {
                row[i] = (byte) value;
                value += PATTERN_STEP;
            }
        }

        private int leastFree(int from) {
            for (int block = Math.max(from, FIRST_DATA_BLOCK); block < BLOCKS; block++) {
                if (!taken[block]) {
                    return block;
                }
            }
            return NONE;
        }

        private boolean hasSpan(int block, int from, int to) {
            return block >= 0 && block < BLOCKS && rows[block] != null
                    && from >= 0 && from <= to && to <= BLOCK_BYTES;
        }
    }

    /** The records of the files, in blocks 1 to 3. */
    private static final class Records {
        /** Four fill a block, so that they follow one another without a gap from block 1 on. */
        private static final int FIRST_AT = BLOCK_BYTES;
        private static final int BYTES = 256;

        private static final int MODE_AT = 0;
        private static final int SIZE_AT = 4;
        private static final int BEHIND_AT = 20;
        private static final int LINKS_AT = 26;
        private static final int HALF_BLOCKS_AT = 28;
        private static final int BODY_AT = 40;

        private static final int PLAIN_MODE = 0x8000;
        private static final int LINK_MODE = 0xA000;

        private final Front front;

        Records(Front front) {
            this.front = front;
        }

        boolean isNumber(int file) {
            return file >= 1 && file <= FILES;
        }

        /** The least file that is not there, NONE if all are. */
        int leastAbsent() {
            for (int file = 1; file <= FILES; file++) {
                if (kindOf(file) == NONE) {
                    return file;
                }
            }
            return NONE;
        }

        int howManyThere() {
            int there = 0;
            for (int file = 1; file <= FILES; file++) {
                if (kindOf(file) != NONE) {
                    there++;
                }
            }
            return there;
        }

        void begin(int file, int kind, int links) {
            setField(file, MODE_AT, 2, kind == LINK ? LINK_MODE : PLAIN_MODE);
            setLinks(file, links);
        }

        void erase(int file) {
            setField(file, 0, BYTES, 0);
        }

        /** NONE for a file that is not there, and for a number that no file has. */
        int kindOf(int file) {
            switch (field(file, MODE_AT, 2)) {
                case PLAIN_MODE:
                    return PLAIN;
                case LINK_MODE:
                    return LINK;
                default:
                    return NONE;
            }
        }

        int sizeOf(int file) {
            return field(file, SIZE_AT, 4);
        }

        void setSize(int file, int size) {
            setField(file, SIZE_AT, 4, size);
        }

        int behind(int file) {
            return field(file, BEHIND_AT, 4);
        }

        void setBehind(int file, int other) {
            setField(file, BEHIND_AT, 4, other);
        }

        int linksOf(int file) {
            return field(file, LINKS_AT, 2);
        }

        void setLinks(int file, int links) {
            setField(file, LINKS_AT, 2, links);
        }

        int blocksOf(int file) {
            return field(file, HALF_BLOCKS_AT, 4) / 2;
        }

        /** Whether the record has the target itself, where others have their blocks. */
        boolean hasTarget(int file) {
            return kindOf(file) == LINK && sizeOf(file) <= MOST_TARGET_IN_RECORD;
        }

        int targetByte(int file, int i) {
            return field(file, BODY_AT + i, 1);
        }

        void setTargetByte(int file, int i, int value) {
            setField(file, BODY_AT + i, 1, value);
        }

        int blockOf(int file, int piece) {
            // A file without blocks may have a target where others have the numbers of theirs.
            if (piece < 0 || piece >= PIECES || blocksOf(file) == 0) {
                return NONE;
            }
            return field(file, BODY_AT + 4 * piece, 4);
        }

        void addBlock(int file, int piece, int block) {
            setField(file, BODY_AT + 4 * piece, 4, block);
            setField(file, HALF_BLOCKS_AT, 4, 2 * (blocksOf(file) + 1));
        }

        void removeBlock(int file, int piece) {
            setField(file, BODY_AT + 4 * piece, 4, NONE);
            setField(file, HALF_BLOCKS_AT, 4, 2 * (blocksOf(file) - 1));
        }

        private int field(int file, int at, int length) {
            return isNumber(file) ? front.number(startOf(file) + at, length) : 0;
        }

        private void setField(int file, int at, int length, int value) {
            if (isNumber(file)) {
                front.setNumber(startOf(file) + at, length, value);
            }
        }

        private static int startOf(int file) {
            return FIRST_AT + BYTES * (file - 1);
        }
    }

    /** The list of files without links: its head in block 0, the rest in the records. */
    private static final class Waiting {
        private static final int HEAD_AT = 232;

        private final Front front;
        private final Records records;

        Waiting(Front front, Records records) {
            this.front = front;
            this.records = records;
        }

        int first() {
            return front.number(HEAD_AT, 4);
        }

        int howMany() {
            int file = first();
            int seen = 0;
            while (seen < FILES && file != NONE) {
                file = records.behind(file);
                seen++;
            }
            return seen;
        }

        void add(int file) {
            records.setBehind(file, first());
            setFirst(file);
        }

        void remove(int file) {
            if (first() == file) {
                setFirst(records.behind(file));
            } else {
                int before = fileBefore(file);
                records.setBehind(before, records.behind(file));
            }
            records.setBehind(file, NONE);
        }

        private int fileBefore(int file) {
            int before = first();
            int seen = 0;
            while (seen < FILES && before != NONE && records.behind(before) != file) {
                before = records.behind(before);
                seen++;
            }
            return before;
        }

        private void setFirst(int file) {
            front.setNumber(HEAD_AT, 4, file);
        }
    }

    /** The bytes of files, in the blocks of their pieces or, of a short target, in the record. */
    private static final class Bodies {
        private final DataBlocks blocks;
        private final Records records;

        Bodies(DataBlocks blocks, Records records) {
            this.blocks = blocks;
            this.records = records;
        }

        int byteAt(int file, int i) {
            if (records.hasTarget(file)) {
                return records.targetByte(file, i);
            }
            int block = records.blockOf(file, i / BLOCK_BYTES);
            return block == NONE ? 0 : blocks.byteAt(block, i % BLOCK_BYTES);
        }

        void setTarget(int file, int n, int seed) {
            if (records.hasTarget(file)) {
                for (int i = 0; i < n; i++) {
                    records.setTargetByte(file, i, targetByte(seed, i));
                }
                return;
            }
            takeBlock(file, 0);
            int block = records.blockOf(file, 0);
            for (int i = 0; i < n; i++) {
                blocks.setByte(block, i, targetByte(seed, i));
            }
        }

        int blocksWanted(int file, int at, int n) {
            int wanted = 0;
            for (int piece = at / BLOCK_BYTES; piece <= lastPiece(at, n); piece++) {
                if (records.blockOf(file, piece) == NONE) {
                    wanted++;
                }
            }
            return wanted;
        }

        /** Gives the file the blocks and the size that n bytes from a place on need. */
        void prepare(int file, int at, int n) {
            for (int piece = at / BLOCK_BYTES; piece <= lastPiece(at, n); piece++) {
                if (records.blockOf(file, piece) == NONE) {
                    takeBlock(file, piece);
                }
            }
            records.setSize(file, Math.max(records.sizeOf(file), at + n));
        }

        void setBytes(int file, int at, long bytes, int n) {
            long rest = bytes;
            for (int place = at + n - 1; place >= at; place--) {
                int block = records.blockOf(file, place / BLOCK_BYTES);
                blocks.setByte(block, place % BLOCK_BYTES, (int) rest);
                rest = rest >>> 8;
            }
        }

        void setPattern(int file, int at, int n, int seed) {
            for (int piece = at / BLOCK_BYTES; piece <= lastPiece(at, n); piece++) {
                int start = piece * BLOCK_BYTES;
                int from = Math.max(at - start, 0);
                int to = Math.min(at + n - start, BLOCK_BYTES);
                int first = seed + PATTERN_STEP * (start + from - at);
                blocks.setPattern(records.blockOf(file, piece), from, to, first);
            }
        }

        void resize(int file, int size) {
            int whole = size / BLOCK_BYTES;
            int kept = size % BLOCK_BYTES;
            giveBack(file, kept == 0 ? whole : whole + 1);
            int block = records.blockOf(file, whole);
            if (block != NONE) {
                blocks.clear(block, kept, BLOCK_BYTES);
            }
            records.setSize(file, size);
        }

        void giveBack(int file, int firstPiece) {
            for (int piece = firstPiece; piece < PIECES; piece++) {
                int block = records.blockOf(file, piece);
                if (block != NONE) {
                    blocks.give(block);
                    records.removeBlock(file, piece);
                }
            }
        }

        private void takeBlock(int file, int piece) {
            int before = records.blockOf(file, piece - 1);
            int goal = before == NONE ? FIRST_DATA_BLOCK : before + 1;
            int block = blocks.take(goal);
            if (block != NONE) {
                records.addBlock(file, piece, block);
            }
        }

        private static int targetByte(int seed, int i) {
            return 1 + Math.floorMod(seed + i, 255);
        }

        private static int lastPiece(int at, int n) {
            return (at + n - 1) / BLOCK_BYTES;
        }
    }
}
