import java.io.IOException;
import java.nio.file.Path;

/**
 * All promises: each sentence of the document that names something to be asked has a test of its own,
 * which quotes it. Run from the project's folder, beside which the document stands.
 */
public final class BoundaryTest {
    public static void main(String[] args) throws IOException {
        Sentences sentences = new Sentences(Path.of("../shared/DOC.md"));
        GeneralBoundaries.tell(sentences);
        GridBoundaries.tell(sentences);
        TextBoundaries.tell(sentences);
        ChangesBoundaries.tell(sentences);
        RulesBoundaries.tell(sentences);
        SearchBoundaries.tell(sentences);
        sentences.end("BoundaryTest");
    }
}
