import java.io.IOException;

/** Each sentence of the document that names a boundary case, by a test of its own. */
public final class SentencesTest {
    public static void main(String[] args) throws IOException {
        Sentences sentences = new Sentences("SentencesTest");
        TermsSentences.all(sentences);
        LettersSentences.all(sentences);
        AskedSentences.all(sentences);
        TapesSentences.all(sentences);
        sentences.end();
    }
}
