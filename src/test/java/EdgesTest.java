import java.io.IOException;

/** Each sentence of the document that names an edge: the last value that is taken, the first that is not. */
public final class EdgesTest {
    private EdgesTest() {
    }

    public static void main(String[] args) throws IOException {
        Document.read();
        CurveEdges.all();
        ShelfEdges.all();
        WindowEdges.all();
        FindEdges.all();
        MeanEdges.all();
        WitnessEdges.all();
        RackEdges.all();
        Document.isCovered();
        Due.end();
    }
}
