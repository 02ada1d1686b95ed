import java.io.IOException;

/** Each sentence of the document that names a boundary case, by a test of its own. */
public final class EdgesTest {
    private EdgesTest() {
    }

    public static void main(String[] args) throws IOException {
        Edges edges = new Edges();
        PanesEdges.all(edges);
        AskedEdges.all(edges);
        ListsEdges.all(edges);
        RowsEdges.all(edges);
        MovedEdges.all(edges);
        MapsEdges.all(edges);
        FiguresEdges.all(edges);
        TermsEdges.all(edges);
        LetGoEdges.all(edges);
        edges.end();
    }
}
