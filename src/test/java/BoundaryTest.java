/**
 * Each sentence of the document that names a boundary (too small, too large, empty, full, a wrap-around, a refused
 * call), with a test of its own that quotes it. A sentence without a test is told too.
 */
public final class BoundaryTest {
    private BoundaryTest() {
    }

    public static void main(String[] args) {
        TextBoundaries.check();
        RoundBoundaries.check();
        CallBoundaries.check();
        ChangeBoundaries.check();
        for (String sentence : Document.unquoted()) {
            Check.due("a test for the sentence '" + sentence + "'", 0, 1);
        }
        Check.end();
    }
}
