import java.nio.file.Files;
import java.nio.file.Path;
import java.util.regex.Matcher;
import java.util.regex.Pattern;

/**
 * Runs whose answers were given by a second reading of the document: it tries everything, in another language, and was
 * written behind the class but without a look at Oracle, so that a mistake in Oracle need not be in it too.
 */
public final class RecordedTest {
    private static final Pattern BYTE = Pattern.compile("\\\\x([0-9a-f]{2})");
    private static final String TELLS = "tell ";

    private final Check check = new Check();
    private Called x = new Called();
    private String told = "";

    /** Signs that a row can't hold stand in it as a backslash, x and two digits of sixteen. */
    private static String plain(String text) {
        return BYTE.matcher(text).replaceAll(
            m -> Matcher.quoteReplacement(String.valueOf((char) Integer.parseInt(m.group(1), 16))));
    }

    private void row(String row, int line) {
        if (row.equals("new")) {
            x = new Called();
            told = "";
            return;
        }
        int sign = row.lastIndexOf(" = ");
        String call = row.substring(0, sign);
        if (call.startsWith(TELLS)) {
            told = call.substring(TELLS.length());
            for (String put : Called.putting(plain(told))) {
                x.call(put);
            }
            call = "text()";
        }
        check.due("runs.txt, line " + line + ", text <" + told + ">: " + call, x.call(call),
            Long.parseLong(row.substring(sign + 3)));
    }

    public static void main(String[] args) throws Exception {
        Path source = Path.of(args.length > 0 ? args[0] : "src/main/java/ShelfDrives.java").toAbsolutePath();
        RecordedTest test = new RecordedTest();
        int line = 0;
        for (String row : Files.readAllLines(source.resolve("../../../test/recorded/runs.txt").normalize())) {
            line++;
            test.row(row, line);
        }
        test.check.due("runs.txt has runs", line > 1000, true);
        test.check.end();
    }
}
