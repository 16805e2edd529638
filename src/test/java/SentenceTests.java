import java.nio.file.Files;
import java.nio.file.Path;

/** Every sentence of the document that names a boundary, with the tests that hold the class to it. */
public final class SentenceTests {
    private SentenceTests() {
    }

    public static void main(String[] args) throws Exception {
        Path project = Path.of(args.length > 0 ? args[0] : ".");
        Sentences sentences = new Sentences(Files.readString(project.resolve("../shared/DOC.md")));
        new TextSentences(sentences).tell();
        new TermSentences(sentences).tell();
        new AskSentences(sentences).tell();
        new ActSentences(sentences).tell();
        if (!sentences.finish()) {
            System.exit(1);
        }
    }
}
