import java.io.IOException;

/** The boundary cases that the document names, sentence by sentence: Terms, promises 1 to 43. */
public final class EdgesTest {
    public static void main(String[] args) throws IOException {
        Due due = new Due("EdgesTest");
        Edges edges = new Edges(due);
        due.is("parts of the document", edges.parts(), 44);
        new TermsEdges(edges).run();
        new RowsEdges(edges).run();
        new TextsEdges(edges).run();
        new SpokesEdges(edges).run();
        new DeedsEdges(edges).run();
        new AsideEdges(edges).run();
        new GuessEdges(edges).run();
        new ChanceEdges(edges).run();
        new ToldEdges(edges).run();
        for (String left : edges.unquoted()) {
            due.is("a boundary case without a test: " + left, 1, 0);
        }
        due.end();
    }
}
