import java.io.IOException;

/** For each sentence of the document a test of its own, boundary cases above all, which names the promise and the sentence. */
public final class BoundaryTest {
    private BoundaryTest() {
    }

    public static void main(String[] args) throws IOException {
        Checks c = new Checks(args.length > 0 ? args[0] : "../shared/DOC.md");
        BoundaryTerms.run(c);
        BoundaryWords.run(c);
        BoundaryChildren.run(c);
        BoundaryOrders.run(c);
        BoundaryAnswers.run(c);
        BoundaryLessons.run(c);
        OrdinaryCases.run(c);
        c.end();
    }
}
