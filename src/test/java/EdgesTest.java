/**
 * Each sentence of the document that names a bound: the last input on this side of it, the first
 * beyond it, and that a call which is refused leaves all as it was. Each answer is told with the
 * promise and the sentence that it holds.
 */
public final class EdgesTest {
    public static void main(String[] args) throws java.io.IOException {
        Check check = new Check("EdgesTest");
        Edges edges = new Edges(check);
        new TermEdges(edges).look();
        new VolumeEdges(edges).look();
        new PieceEdges(edges).look();
        new PoolEdges(edges).look();
        new ToldEdges(edges).look();
        new NumberEdges(edges).look();
        new LastEdges(edges).look();
        edges.end();
        check.end();
    }
}
