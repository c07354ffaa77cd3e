import java.io.IOException;

/** The boundary cases of the whole document, sentence by sentence. */
public final class EdgesTest {
    public static void main(String[] args) throws IOException {
        Check check = new Check("EdgesTest");
        Edges edges = new Edges(check);
        new TaleEdges(edges).run();
        new JourneyEdges(edges).run();
        new WaysEdges(edges).run();
        new TableEdges(edges).run();
        new KindsEdges(edges).run();
        edges.noneIsLeftOut();
        check.end();
    }
}
