import java.io.IOException;
import java.nio.file.Files;
import java.nio.file.Path;
import java.util.TreeSet;
import java.util.regex.Matcher;
import java.util.regex.Pattern;

/** What README.md shows as answers is what the class answers; run from the project's folder. */
final class ReadmeTest {
    private static final String MAKING = "LienTower x = new LienTower();";
    private static final Pattern SHOWN = Pattern.compile("x\\.(\\w+)\\(([^)]*)\\); +// (-?\\d+)(:.*)?");
    private static final Pattern FINDING =
            Pattern.compile("\\| (-\\d+) \\| ([A-Z]+) \\|[^|]*\\|(?: `x\\.(\\w+)\\(([^)]*)\\)`)?.*");

    private final String readme;
    private final LienTower tower = new LienTower();

    private ReadmeTest(String readme) {
        this.readme = readme;
    }

    public static void main(String[] args) throws IOException {
        ReadmeTest test = new ReadmeTest(Files.readString(Path.of("README.md")));
        test.example();
        test.findings();
        test.namesAllCalls();
        Due.end();
    }

    private String between(String begin, String end) {
        int from = readme.indexOf(begin);
        int to = readme.indexOf(end, from + begin.length());
        Due.holds("README.md has " + begin.trim(), from >= 0 && to > from);
        return from >= 0 && to > from ? readme.substring(from + begin.length(), to) : "";
    }

    /** Each line makes the object, is a remark, or is a call with its answer. */
    private void example() {
        for (String line : between("```java\n", "```").split("\n")) {
            Matcher m = SHOWN.matcher(line);
            if (m.matches()) {
                Due.same(line, answer(m.group(1), m.group(2)), Integer.parseInt(m.group(3)));
            } else {
                Due.holds(line + " is known", line.equals(MAKING) || line.startsWith("// "));
            }
        }
    }

    /** The rows in order, each with its example: NONE has no such one, and FULL wants 16 to wait. */
    private void findings() {
        for (int i = 0; i < 16; i++) {
            tower.tell(0);
        }
        String[] names = {"BEYOND", "NONE", "STATE", "FULL", "KIND"};
        int rows = 0;
        Matcher m = FINDING.matcher(between("## Findings", "## Tests"));
        while (m.find() && rows < names.length) {
            int due = -1000000001 - rows;
            Due.holds(m.group(), m.group(2).equals(names[rows]));
            Due.same(m.group(), Integer.parseInt(m.group(1)), due);
            if (m.group(3) != null) {
                Due.same(m.group(), answer(m.group(3), m.group(4)), due);
            }
            Due.same(m.group(), m.group(3) == null ? 1 : 0, due == -1000000002 ? 1 : 0);
            rows++;
        }
        Due.same("findings that are told", rows, names.length);
    }

    private void namesAllCalls() {
        TreeSet<String> named = new TreeSet<>();
        Matcher m = Pattern.compile("`(\\w+)`").matcher(between("| group | calls |", "## Findings"));
        while (m.find()) {
            named.add(m.group(1));
        }
        Due.holds("the calls are " + named, named.equals(new TreeSet<>(Calls.names())));
    }

    private int answer(String name, String numbers) {
        return Calls.answer(tower, name + " " + numbers.replace(",", " "));
    }
}
