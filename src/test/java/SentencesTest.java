import java.nio.file.Path;

/** Each sentence of the document that says what must hold has a test of its own here. */
public final class SentencesTest {
    public static void main(String[] args) throws Exception {
        Sentences sentences = new Sentences(Path.of("../shared/DOC.md"));
        new ProgramSentences(sentences).all();
        new ChangeSentences(sentences).all();
        new StateSentences(sentences).all();
        new RunSentences(sentences).all();
        new ErrorSentences(sentences).all();
        sentences.end();
    }
}
