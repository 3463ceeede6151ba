import java.util.ArrayDeque;
import java.util.ArrayList;
import java.util.Deque;
import java.util.Iterator;
import java.util.List;
import java.util.TreeMap;
import java.util.TreeSet;

/** The document once more, with other means: bodies are held whole, and records made when asked. */
final class Model {
    private static final class Body {
        boolean isLink;
        int links;
        int size;
        final int[] bytes = new int[15360];
        final TreeMap<Integer, Integer> blocks = new TreeMap<>();
    }

    private final TreeMap<Integer, Body> files = new TreeMap<>();
    private final TreeSet<Integer> free = new TreeSet<>();
    private final Deque<Integer> waiting = new ArrayDeque<>();

    Model() {
        for (int block = 4; block < 128; block++) {
            free.add(block);
        }
    }

    int make(int links) {
        argument(links >= 0 && links <= 1000);
        state(files.size() < 12);
        int file = newNumber();
        Body body = new Body();
        body.links = links;
        files.put(file, body);
        if (links == 0) {
            waiting.addFirst(file);
        }
        return file;
    }

    int link(int n, int seed) {
        argument(n >= 1 && n <= 1000);
        state(files.size() < 12 && (n < 60 || !free.isEmpty()));
        int file = newNumber();
        Body body = new Body();
        body.isLink = true;
        body.links = 1;
        body.size = n;
        for (int i = 0; i < n; i++) {
            int rest = (seed + i) % 255;
            body.bytes[i] = 1 + (rest < 0 ? rest + 255 : rest);
        }
        files.put(file, body);
        if (n >= 60) {
            takeBlocks(body, 0, 1);
        }
        return file;
    }

    int write(int file, int at, long bytes, int n) {
        span(file, at, n, 8);
        Body body = files.get(file);
        takeBlocks(body, at, n);
        for (int i = 0; i < n; i++) {
            body.bytes[at + i] = (int) (bytes >> 8 * (n - 1 - i) & 255);
        }
        return body.size;
    }

    int paint(int file, int at, int n, int seed) {
        span(file, at, n, 4000);
        Body body = files.get(file);
        takeBlocks(body, at, n);
        Runs.pattern(body.bytes, at, n, seed);
        return body.size;
    }

    int read(int file, int i) {
        argument(files.containsKey(file));
        index(i >= 0 && i < files.get(file).size);
        return files.get(file).bytes[i];
    }

    int cut(int file, int size) {
        argument(isPlain(file) && size >= 0 && size <= 15360);
        Body body = files.get(file);
        int before = body.size;
        for (int i = size; i < 15360; i++) {
            body.bytes[i] = 0;
            if (i % 1024 == 0) {
                Integer block = body.blocks.remove(i / 1024);
                if (block != null) {
                    free.add(block);
                }
            }
        }
        body.size = size;
        return before;
    }

    int links(int file, int by) {
        argument(files.containsKey(file));
        Body body = files.get(file);
        long after = (long) body.links + by;
        argument(after >= 0 && after <= 1000);
        body.links = (int) after;
        if (after != 0) {
            waiting.remove(file);
        } else if (!waiting.contains(file)) {
            waiting.addFirst(file);
        }
        return body.links;
    }

    int drop(int file) {
        argument(files.containsKey(file));
        state(files.get(file).links == 0);
        Body body = files.remove(file);
        free.addAll(body.blocks.values());
        waiting.remove(file);
        return body.blocks.size();
    }

    int finish() {
        List<Integer> all = new ArrayList<>(waiting);
        all.forEach(this::drop);
        return all.size();
    }

    int about(int file, int what) {
        argument(file >= 1 && file <= 12 && what >= 0 && what <= 5);
        Body body = files.get(file);
        if (body == null) {
            return 0;
        }
        return switch (what) {
            case 0 -> body.isLink ? 3 : 1;
            case 1 -> body.links;
            case 2 -> body.size;
            case 3 -> body.blocks.size();
            case 4 -> body.blocks.getOrDefault(0, 0);
            default -> behind(file);
        };
    }

    int block(int file, int piece) {
        argument(files.containsKey(file) && piece >= 0 && piece <= 14);
        return files.get(file).blocks.getOrDefault(piece, 0);
    }

    int count(int what) {
        argument(what >= 0 && what <= 3);
        return switch (what) {
            case 0 -> free.size();
            case 1 -> files.size();
            case 2 -> waiting.size();
            default -> waiting.isEmpty() ? 0 : waiting.getFirst();
        };
    }

    int byteOf(int block, int i) {
        index(block >= 0 && block <= 3 && i >= 0 && i <= 1023);
        if (block == 0) {
            return i == 232 ? count(3) : 0;
        }
        int file = 4 * (block - 1) + i / 256 + 1;
        return files.containsKey(file) ? recordByte(file, i % 256) : 0;
    }

    private int recordByte(int file, int i) {
        Body body = files.get(file);
        if (i >= 40 && i < 100) {
            if (body.isLink && body.size < 60) {
                return body.bytes[i - 40];
            }
            return i % 4 == 0 ? body.blocks.getOrDefault((i - 40) / 4, 0) : 0;
        }
        return switch (i) {
            case 1 -> body.isLink ? 160 : 128;
            case 4 -> body.size % 256;
            case 5 -> body.size / 256;
            case 20 -> behind(file);
            case 26 -> body.links % 256;
            case 27 -> body.links / 256;
            case 28 -> 2 * body.blocks.size();
            default -> 0;
        };
    }

    private int behind(int file) {
        Iterator<Integer> each = waiting.iterator();
        while (each.hasNext()) {
            if (each.next() == file) {
                return each.hasNext() ? each.next() : 0;
            }
        }
        return 0;
    }

    private int newNumber() {
        int file = 1;
        while (files.containsKey(file)) {
            file++;
        }
        return file;
    }

    private void takeBlocks(Body body, int at, int n) {
        TreeSet<Integer> wanted = new TreeSet<>();
        for (int i = at; i < at + n; i++) {
            wanted.add(i / 1024);
        }
        wanted.removeAll(body.blocks.keySet());
        state(wanted.size() <= free.size());
        for (int piece : wanted) {
            Integer block = free.ceiling(body.blocks.getOrDefault(piece - 1, 3) + 1);
            block = block == null ? free.first() : block;
            free.remove(block);
            body.blocks.put(piece, block);
        }
        body.size = Math.max(body.size, at + n);
    }

    private boolean isPlain(int file) {
        return files.containsKey(file) && !files.get(file).isLink;
    }

    private void span(int file, int at, int n, int most) {
        argument(isPlain(file) && n >= 1 && n <= most && at >= 0 && (long) at + n <= 15360);
    }

    private static void argument(boolean right) {
        if (!right) {
            throw new IllegalArgumentException();
        }
    }

    private static void state(boolean right) {
        if (!right) {
            throw new IllegalStateException();
        }
    }

    private static void index(boolean right) {
        if (!right) {
            throw new IndexOutOfBoundsException();
        }
    }
}
