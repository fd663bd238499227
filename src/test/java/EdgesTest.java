import java.io.IOException;

/** Each sentence of the document by a test of its own. */
final class EdgesTest {
    public static void main(String[] args) throws IOException {
        Edge.readDocument();
        EdgesOfWorks.all();
        EdgesOfBest.all();
        EdgesOfBenchRules.all();
        EdgesOfToldOrders.all();
        EdgesOfRows.all();
        EdgesOfTwoWorks.all();
        EdgesOfTrees.all();
        EdgesOfCounts.all();
        Edge.noneIsLeftOut();
        Due.end();
    }
}
