import java.io.IOException;
import java.nio.file.Path;

/** Each sentence of DOC.md that names an edge has a test of its own, and none of its words is left. */
public final class EdgesTest {
    public static void main(String[] args) throws IOException {
        Edge edge = new Edge(Path.of(args.length > 0 ? args[0] : "."));
        new ComingEdges(edge).all();
        new TextEdges(edge).all();
        new YearEdges(edge).all();
        new KindEdges(edge).all();
        new AskedEdges(edge).all();
        new BookEdges(edge).all();
        new ActEdges(edge).all();
        new TapeEdges(edge).all();
        edge.end("EdgesTest");
    }
}
