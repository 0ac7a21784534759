import java.io.IOException;
import java.nio.file.Files;
import java.nio.file.Path;
import java.util.ArrayList;
import java.util.List;

/** README.md's example: each of its calls is made here too, and answers as the remark beside it says. */
public final class ReadmeTest {
    private static final String MADE = "Striping s = new Striping()";

    private final List<String> lines;
    private int next = 0;

    private ReadmeTest(List<String> lines) {
        this.lines = lines;
    }

    public static void main(String[] args) throws IOException {
        Check.sentence("README.md's example");
        List<String> lines = example(Files.readAllLines(Path.of("README.md")));
        Check.due("it begins with a new object", !lines.isEmpty() && lines.get(0).equals(MADE + ";"), true);
        new ReadmeTest(lines).run();
        Check.end();
    }

    /** The lines of code in the first block of Java. */
    private static List<String> example(List<String> readme) {
        List<String> code = new ArrayList<>();
        boolean inside = false;
        for (String line : readme) {
            if (line.startsWith("```")) {
                if (inside) {
                    break;
                }
                inside = line.equals("```java");
            } else if (inside && !line.isBlank() && !line.startsWith("//")) {
                code.add(line);
            }
        }
        return code;
    }

    private void run() {
        Striping s = new Striping();
        next = 1;
        int id = s.field(-1, 0, false);
        said("int id = s.field(-1, 0, false)", id);
        int links = s.field(-1, 1, true);
        said("int links = s.field(-1, 1, true)", links);
        int forward = s.field(links, 2, false);
        said("int forward = s.field(links, 2, false)", forward);
        said("s.ready()", s.ready());
        said("s.begin()", s.begin());
        said("s.leaf(id, 10)", s.leaf(id, 10));
        said("s.open(links)", s.open(links));
        said("s.leaf(forward, 20)", s.leaf(forward, 20));
        said("s.leaf(forward, 40)", s.leaf(forward, 40));
        said("s.close()", s.close());
        said("s.close()", s.close());
        said("s.records()", s.records());
        said("s.entries(1)", s.entries(1));
        said("s.entry(1, 1, 0)", s.entry(1, 1, 0));
        said("s.entry(1, 1, 1)", s.entry(1, 1, 1));
        said("s.entry(1, 1, 2)", s.entry(1, 1, 2));
        said("s.assemble(0, 0b10, 0)", s.assemble(0, 0b10, 0));
        said("s.event(0, 0)", s.event(0, 0));
        said("s.event(1, 0)", s.event(1, 0));
        said("s.event(1, 1)", s.event(1, 1));
        said("s.event(2, 0)", s.event(2, 0));
        said("s.event(2, 1)", s.event(2, 1));
        said("s.event(3, 0)", s.event(3, 0));
        said("s.event(4, 0)", s.event(4, 0));
        Check.due("lines of the example that are not looked at", lines.size() - next, 0);
    }

    /** The example's next line is this call, and its remark begins with this answer. */
    private void said(String call, Object answer) {
        String line = next < lines.size() ? lines.get(next) : "";
        next++;
        String[] parts = line.split(";\\s*// ", 2);
        Check.due("the line of " + call + " (it is: " + line + ")", parts[0].equals(call), true);
        String remark = parts.length < 2 ? "" : parts[1];
        Check.due("the remark's " + answer + " in: " + line, remark.split("[ ,:]", 2)[0].equals(answer.toString()), true);
    }
}
