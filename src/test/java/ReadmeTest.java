import java.lang.reflect.Method;
import java.nio.file.Files;
import java.nio.file.Path;
import java.util.Set;
import java.util.TreeSet;
import java.util.regex.Matcher;
import java.util.regex.Pattern;

/** What README.md says that the calls answer, so that it stays true. */
public final class ReadmeTest {
    private static final Pattern TOWN = Pattern.compile("(?s)```text\n(.*?)\n```");
    private static final Pattern ROW = Pattern.compile("(?m)^x\\.((\\w+)\\([^)]*\\)); *// (-?\\d+|true|false)\\b");
    /** The calls that tell stands for. */
    private static final Set<String> TOLD = Set.of("feed", "end", "text");

    private final Check check = new Check();
    private final String readme;

    private ReadmeTest(String readme) {
        this.readme = readme;
    }

    private Called told() {
        Called x = new Called();
        Matcher town = TOWN.matcher(readme);
        check.due("README.md tells a town", town.find(), true);
        for (String call : Called.putting(town.group(1))) {
            x.call(call);
        }
        check.due("tell(x, ..)", x.call("text()"), 2);
        return x;
    }

    private static long number(String answer) {
        return answer.equals("true") ? 1 : answer.equals("false") ? 0 : Long.parseLong(answer);
    }

    private void rows() {
        Called x = told();
        Set<String> shown = new TreeSet<>(TOLD);
        int rows = 0;
        Matcher row = ROW.matcher(readme);
        while (row.find()) {
            check.due("README.md: x." + row.group(1), x.call(row.group(1)), number(row.group(3)));
            shown.add(row.group(2));
            rows++;
        }
        check.due("each row that begins with x. has an answer", readme.split("(?m)^x\\.", -1).length - 1, rows);
        for (Method m : ShelfDrives.class.getMethods()) {
            if (m.getDeclaringClass() == ShelfDrives.class) {
                check.due("README.md shows " + m.getName(), shown.contains(m.getName()), true);
            }
        }
    }

    private void namesTests(Path tests) throws java.io.IOException {
        try (var files = Files.list(tests)) {
            for (Path file : (Iterable<Path>) files.sorted()::iterator) {
                String name = file.getFileName().toString().replace(".java", "");
                check.due("README.md names " + name, !name.endsWith("Test") || readme.contains("`" + name + "`"), true);
            }
        }
    }

    public static void main(String[] args) throws Exception {
        Path source = Path.of(args.length > 0 ? args[0] : "src/main/java/ShelfDrives.java").toAbsolutePath();
        Path here = source.resolve("../../../..").normalize();
        ReadmeTest test = new ReadmeTest(Files.readString(here.resolve("README.md")));
        test.rows();
        test.namesTests(here.resolve("src/test/java"));
        test.check.end();
    }
}
