import java.io.IOException;
import java.nio.file.Files;
import java.nio.file.Path;
import java.util.ArrayList;
import java.util.List;

/** The calls that README.md shows answer what it says there; run from the project's folder. */
public final class ReadmeTest {
    private static final List<String> shown = new ArrayList<>();
    private static int next = 0;

    public static void main(String[] args) throws IOException {
        Check.of("README.md");
        readCalls();
        BinDesk desk = new BinDesk(10);
        said("desk.add(6)", desk.add(6));
        said("desk.add(5)", desk.add(5));
        said("desk.add(4)", desk.add(4));
        said("desk.add(11)", desk.add(11));
        said("desk.items()", desk.items());
        said("desk.sizeOf(2)", desk.sizeOf(2));
        said("desk.least()", desk.least());
        said("desk.binOf(2)", desk.binOf(2));
        said("desk.leastWithout(1)", desk.leastWithout(1));
        said("desk.spare()", desk.spare());
        said("desk.sizeFor(1)", desk.sizeFor(1));
        said("desk.together(1, 2)", desk.together(1, 2));
        said("desk.setSize(5)", desk.setSize(5));
        said("desk.resize(0, 5)", desk.resize(0, 5));
        said("desk.setSize(5)", desk.setSize(5));
        said("desk.size()", desk.size());
        said("desk.remove(1)", desk.remove(1));
        said("desk.sizeOf(1)", desk.sizeOf(1));
        said("desk.add(3)", desk.add(3));
        Check.due("the number of calls shown", shown.size(), next);
        Check.end();
    }

    private static void readCalls() throws IOException {
        for (String line : Files.readAllLines(Path.of("README.md"))) {
            if (line.contains("desk.") && line.contains("// ")) {
                shown.add(line);
            }
        }
    }

    /** The next call shown is this one, and the comment beside it begins with this answer. */
    private static void said(String call, Object answer) {
        String line = next < shown.size() ? shown.get(next) : "";
        String[] parts = line.split("; +// ");
        Check.due("call " + (next + 1) + " shown", parts[0], call);
        Check.due(call, named(answer), parts[parts.length - 1].split(":")[0]);
        next++;
    }

    private static String named(Object answer) {
        return answer.equals(BinDesk.NONE) ? "NONE" : answer.toString();
    }
}
