/** Each sentence of the document that names a boundary case, at the boundary and beside it. */
public final class EdgesTest {
    public static void main(String[] args) {
        HouseEdges.run();
        TextEdges.run();
        NumberEdges.run();
        FaceEdges.run();
        Edges.finish();
    }
}
