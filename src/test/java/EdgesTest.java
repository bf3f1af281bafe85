import java.io.IOException;

/** A test for each clause of the document, its edges above all; it fails if a clause has none. */
public final class EdgesTest {
    /** These say nothing that a call could show, or only head a paragraph. */
    private static final String[] UNTESTABLE = {
        "The recognizer stores functions as truth tables, computes their prime implicants and their co-occurrence graph,"
            + " decides whether they are read-once, and then produces the formula or a reason why there is none",
        "The class is not thread-safe", "Variables and points", "Functions", "Prime implicants", "Co-occurrence graph",
        "Read-once functions", "Cotree", "Formulas", "History"
    };

    public static void main(String[] args) throws IOException {
        Due due = new Due();
        Edges edges = new Edges(due);
        new DescriptionEdges(edges).all();
        new TableEdges(edges).all();
        new GraphEdges(edges).all();
        new CotreeEdges(edges).all();
        new TextEdges(edges).all();
        new OperationEdges(edges).all();
        new SampleEdges(edges).all();
        new ProgramEdges(edges).all();
        new ArrayEdges(edges).all();
        edges.end(UNTESTABLE);
        lastCall(due);
        due.end();
    }

    private static void lastCall(Due due) {
        due.section("an object is used for at most 512 calls");
        ReadOnceRecognizer x = new ReadOnceRecognizer();
        for (int i = 1; i <= 510; i++) {
            due.is("call " + i, x.setTable(i % 8, i % 256), Integer.bitCount(i % 256));
        }
        due.is("call 511", x.undo(), 6);
        due.is("call 512", x.table(6), 246);
    }
}
