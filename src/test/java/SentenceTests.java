/** A test for each sentence of the document: what it says, its boundary cases, and what is refused. */
public final class SentenceTests {
    private SentenceTests() {
    }

    public static void main(String[] args) {
        TextEdges.run();
        PointEdges.run();
        ChangeEdges.run();
        SumEdges.run();
        PrimeEdges.run();
        ClassEdges.run();
        BesideEdges.run();
        PlainSentences.run();
        Edge.close();
    }
}
