import java.io.IOException;

/** Each sentence of the document that names a boundary case, at the boundary and one step to either side of it. */
public final class EdgesTest {
    private EdgesTest() {
    }

    public static void main(String[] args) throws IOException {
        Edges e = new Edges();
        new TermsEdges(e).run();
        new RowEdges(e).run();
        new BoardEdges(e).run();
        new DeedEdges(e).run();
        new ToldEdges(e).run();
        new PairEdges(e).run();
        new ChanceEdges(e).run();
        new AnswerEdges(e).run();
        e.end();
    }
}
