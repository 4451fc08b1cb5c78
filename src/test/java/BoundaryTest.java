import java.io.IOException;

/**
 * Promise by promise, each sentence of the document that names a boundary case: too small, too large, empty, full, a
 * wrap-around, a refused call. Each test names its promise's number and the sentence, which must stand in the document.
 */
public final class BoundaryTest {
    private BoundaryTest() { }

    public static void main(String[] args) throws IOException {
        Boundary b = new Boundary();
        new BoundaryFacts(b).run();
        new BoundaryQuestions(b).run();
        new BoundaryMany(b).run();
        new BoundaryAnswers(b).run();
        new BoundaryWeights(b).run();
        new BoundaryShelf(b).run();
        new BoundaryUndo(b).run();
        b.end();
    }
}
