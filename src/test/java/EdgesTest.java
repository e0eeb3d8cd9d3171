import java.nio.file.Path;

/** Each sentence of the document that names an edge: the last value that is allowed, the first that is not. */
public final class EdgesTest {
    public static void main(String[] args) throws Exception {
        Path source = Path.of(args.length > 0 ? args[0] : "src/main/java/ShelfDrives.java").toAbsolutePath();
        Edges edges = new Edges(source.resolve("../../../../../shared/DOC.md").normalize());
        EdgesOfTape.all(edges);
        EdgesOfText.all(edges);
        EdgesOfRun.all(edges);
        EdgesOfRounds.all(edges);
        EdgesOfCost.all(edges);
        EdgesOfPlans.all(edges);
        EdgesOfActs.all(edges);
        edges.end();
    }
}
