import java.io.IOException;
import java.nio.file.Files;
import java.nio.file.Path;
import java.util.ArrayList;
import java.util.List;

/** The example of README.md: it has these lines, and each of them answers what stands behind it. */
public final class ReadmeTest {
    private final FileBody x = new FileBody();
    private final List<String> lines = new ArrayList<>();

    public static void main(String[] args) throws IOException {
        ReadmeTest test = new ReadmeTest();
        test.makeCalls();
        List<String> example = example();
        if (!example.equals(test.lines)) {
            System.out.println("README.md has " + example + ", due are " + test.lines);
            System.exit(1);
        }
        System.out.println("the example is as due");
    }

    private void makeCalls() {
        int file = x.make(1);
        add("int file = x.make(1);", file);
        add("x.write(file, 5000, 0x4142L, 2);", x.write(file, 5000, 0x4142L, 2));
        add("x.read(file, 0);", x.read(file, 0));
        add("x.read(file, 5001);", x.read(file, 5001));
        add("x.block(file, 4);", x.block(file, 4));
        add("x.count(0);", x.count(0));
        add("x.paint(file, 0, 3000, 9);", x.paint(file, 0, 3000, 9));
        add("x.cut(file, 100);", x.cut(file, 100));
        add("x.cut(file, 15360);", x.cut(file, 15360));
        add("x.link(5, 0);", x.link(5, 0));
        add("x.links(file, -1);", x.links(file, -1));
        add("x.count(3);", x.count(3));
        add("x.finish();", x.finish());
        add("x.about(file, 0);", x.about(file, 0));
    }

    private void add(String call, int answer) {
        lines.add(call + " // " + answer);
    }

    /** The calls, each with the number that stands behind it, without the words that follow. */
    private static List<String> example() throws IOException {
        List<String> found = new ArrayList<>();
        for (String line : Files.readAllLines(Path.of("README.md"))) {
            if (line.matches("(int file = )?x\\..*; +// -?\\d+:.*")) {
                found.add(line.replaceFirst(" +// (-?\\d+):.*", " // $1"));
            }
        }
        return found;
    }
}
