import java.nio.file.Files;
import java.nio.file.Path;
import java.util.Set;
import java.util.TreeSet;

/** The sentences that have a test of their own, and the promises that they belong to. */
final class Edges {
    final Check check = new Check();
    private final Set<Integer> promises = new TreeSet<>();
    private final String document;

    /** Where the document can't be read, the sentences are not looked up in it. */
    Edges(Path document) throws java.io.IOException {
        this.document = Files.isReadable(document) ? plain(Files.readString(document)) : null;
    }

    private static String plain(String text) {
        return text.replaceAll("\\s+", " ");
    }

    /** A test of a sentence under "Terms" or above, which belongs to all these promises. */
    Edge term(String sentence, int... belongs) {
        lookUp(sentence, "# ShelfDrives", "## Promise 1:");
        for (int promise : belongs) {
            promises.add(promise);
        }
        return new Edge(check, sentence);
    }

    /** A test of a sentence under the head of this promise. */
    Edge promise(int promise, String sentence) {
        lookUp(sentence, "## Promise " + promise + ":", promise < 40 ? "## Promise " + (promise + 1) + ":" : "## Not");
        promises.add(promise);
        return new Edge(check, promise + ": " + sentence);
    }

    private void lookUp(String sentence, String from, String to) {
        if (document != null) {
            String part = document.substring(document.indexOf(from), document.indexOf(to));
            check.due("the document says <" + sentence + "> behind " + from, part.contains(sentence), true);
        }
    }

    void end() {
        for (int promise = 1; promise <= 40; promise++) {
            check.due("promise " + promise + " has a test of its edges", promises.contains(promise), true);
        }
        check.end();
    }
}
