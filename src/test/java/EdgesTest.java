import java.io.IOException;

/** Every sentence of ../shared/DOC.md, each by a test of its own; fails also where no test names a sentence. */
public final class EdgesTest {
    public static void main(String[] args) throws IOException {
        Edges edges = new Edges(Document.read());
        new EdgesOfTerms(edges).all();
        new EdgesOfLanguage(edges).all();
        new EdgesOfRows(edges).all();
        new EdgesOfCamp(edges).all();
        new EdgesOfDeeds(edges).all();
        new EdgesOfSeen(edges).all();
        new EdgesOfOrders(edges).all();
        new EdgesOfCamping(edges).all();
        new EdgesOfNotes(edges).all();
        new EdgesOfChances(edges).all();
        new EdgesOfTold(edges).all();
        edges.end();
    }
}
