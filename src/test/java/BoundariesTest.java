import java.io.IOException;

/**
 * The sentences of the document, one by one, in its own words: for each that names a boundary case, calls at the
 * boundary and beyond it. A sentence of the promises, or of the headings under "Description", that no check names makes
 * the test fail, and so does a name that the document does not say.
 */
public final class BoundariesTest {
    private BoundariesTest() {
    }

    public static void main(String[] args) throws IOException {
        DescriptionBoundaries.check();
        ErrorBoundaries.check();
        MakingBoundaries.check();
        AskingBoundaries.check();
        ActingBoundaries.check();
        ListBoundaries.check();
        Sentences.end();
    }
}
