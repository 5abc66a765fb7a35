import java.io.IOException;
import java.nio.file.Files;
import java.nio.file.Path;

/** The boundary cases that the document names, sentence by sentence. */
public final class EdgeTest {
    public static void main(String[] args) throws IOException {
        String shared = args.length > 1 ? args[1] : "../shared";
        Edges edges = new Edges(Files.readString(Path.of(shared, "DOC.md")));
        new TextEdges(edges).run();
        new ActEdges(edges).run();
        new TreeEdges(edges).run();
        new ReportEdges(edges).run();
        new SeenEdges(edges).run();
        edges.close();
    }
}
