import java.nio.file.Files;
import java.nio.file.Path;

/** Each sentence of the document that names an edge, by a test of its own that names the promise and the sentence. */
public final class EdgesTest {
    public static void main(String[] args) throws Exception {
        TextEdges.run();
        NightEdges.run();
        PlanEdges.run();
        Path document = Path.of("../shared/DOC.md");
        boolean named = !Files.isReadable(document) || Sentence.areThoseOf(document);
        System.exit(Desk.wrong == 0 && named ? 0 : 1);
    }
}
