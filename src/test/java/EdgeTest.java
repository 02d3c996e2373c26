import java.io.IOException;

/** Each sentence of the document that names a boundary case, by a test of its own. */
public final class EdgeTest {
    private EdgeTest() { }

    public static void main(String[] args) throws IOException {
        Edges.readDocument();
        EdgesOfTexts.all();
        EdgesOfRuns.all();
        EdgesOfPlans.all();
        EdgesOfCalls.all();
        Edges.finish();
        Texts.finish("EdgeTest");
    }
}
