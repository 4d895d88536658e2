import java.io.IOException;
import java.nio.file.Files;
import java.nio.file.Path;

/** Each sentence of the document that names a boundary, on both sides of the boundary. */
public final class BoundaryTest {
    private static final Path DOCUMENT = Path.of("../shared/DOC.md");

    private BoundaryTest() {
    }

    public static void main(String[] args) throws IOException {
        Check check = new Check();
        Sentences doc = new Sentences(check, Files.readString(DOCUMENT));
        new DescriptionBoundaries(doc, check).test();
        new GrammarBoundaries(doc, check).test();
        new TextBoundaries(doc, check).test();
        new WordBoundaries(doc, check).test();
        new ArrangementBoundaries(doc, check).test();
        new PuzzleBoundaries(doc, check).test();
        new RowBoundaries(doc, check).test();
        new SnapshotBoundaries(doc, check).test();
        doc.finish();
        check.finish();
    }
}
