import java.io.IOException;
import java.nio.file.Path;

/** Each sentence of the document has a test of its own: the Terms, and promises 1 to 46. */
public final class EdgesTest {
    public static void main(String[] args) throws IOException {
        Edges edges = new Edges(Path.of("../shared/DOC.md"));
        TextEdges.all(edges);
        FrothEdges.all(edges);
        AheadEdges.all(edges);
        SeenEdges.all(edges);
        TapePromises.all(edges);
        NowPromises.all(edges);
        ActPromises.all(edges);
        AheadPromises.all(edges);
        PuzzlePromises.all(edges);
        edges.dueAllTested("## Terms", "## Not promised");
        edges.end("EdgesTest");
    }
}
