/** A test for each sentence of the document that names a boundary case. */
public final class BoundaryTests {
    private BoundaryTests() {
    }

    public static void main(String[] args) {
        TextEdges.run();
        PointEdges.run();
        ChangeEdges.run();
        SumEdges.run();
        PrimeEdges.run();
        ClassEdges.run();
        BesideEdges.run();
        Edge.close();
    }
}
