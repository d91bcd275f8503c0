import java.io.IOException;
import java.nio.file.Files;
import java.nio.file.Path;
import java.util.ArrayList;
import java.util.List;

/** The example of README.md: the class answers what the example says, line by line. */
public final class ReadmeTest {
    private static final List<String> made = new ArrayList<>();

    public static void main(String[] args) throws IOException {
        CellIndex index = new CellIndex();
        int first = index.add(10 + 64 * 10, 7);
        made("int first = index.add(10 + 64 * 10, 7);", first);
        int second = index.add(13 + 64 * 14, 5);
        made("int second = index.add(13 + 64 * 14, 5);", second);
        made("index.sumBox(0, 63 + 64 * 63);", index.sumBox(0, 63 + 64 * 63));
        made("index.countNear(10 + 64 * 10, 24);", index.countNear(10 + 64 * 10, 24));
        made("index.nearest(14 + 64 * 14, 0);", index.nearest(14 + 64 * 14, 0));
        made("index.closest();", index.closest());
        made("index.move(first, 0);", index.move(first, 0));
        made("index.firstIn(20 + 64 * 20, 1);", index.firstIn(20 + 64 * 20, 1));
        made("index.remove(second);", index.remove(second));
        made("index.placeOf(second);", index.placeOf(second));
        Due.same("the example of README.md, each call with its answer,", made, told());
        Due.end();
    }

    private static void made(String call, int answer) {
        made.add(call + " // " + answer);
    }

    /** Each line "call; // answer, words" as "call; // answer". */
    private static List<String> told() throws IOException {
        List<String> lines = new ArrayList<>();
        for (String line : Files.readAllLines(Path.of("README.md"))) {
            if (line.contains("; ") && line.contains(" // ")) {
                lines.add(line.replaceAll("; +// (-?[0-9]+), .*", "; // $1"));
            }
        }
        return lines;
    }
}
