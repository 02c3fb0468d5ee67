import java.io.IOException;

/** A test of its own for each sentence of 'Terms' and of the promises 1 to 36, with its edges. */
public final class SentencesTest {
    public static void main(String[] args) throws IOException {
        Sentences sentences = new Sentences(Document.read());
        RoadSentences.test(sentences);
        TextSentences.test(sentences);
        PlateSentences.test(sentences);
        ReadingSentences.test(sentences);
        TripSentences.test(sentences);
        BillSentences.test(sentences);
        WarrantSentences.test(sentences);
        ExceptionSentences.test(sentences);
        sentences.everySentenceHasATest();
        Check.end();
    }
}
