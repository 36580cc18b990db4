import java.io.IOException;
import java.nio.file.Path;

/** Every sentence of the document, by its edges. The source is the first argument, the document the second. */
final class EdgesTest {
    private EdgesTest() {
    }

    public static void main(String[] args) throws IOException {
        Edges doc = new Edges();
        new EdgesOfPeople(doc).all();
        new EdgesOfTexts(doc).all();
        new EdgesOfLaws(doc).all();
        new EdgesOfWhatComes(doc).all();
        new EdgesOfGuesses(doc).all();
        new EdgesOfAges(doc).all();
        doc.finish(Path.of(args.length > 1 ? args[1] : "../shared/DOC.md"));
    }
}
