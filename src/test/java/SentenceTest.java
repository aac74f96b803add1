/**
 * A test for each sentence of the document, under the words of the sentence itself: it fails, too, if the document
 * doesn't have these words, or if a word of the description or of a promise stands in no test.
 */
public final class SentenceTest {
    private SentenceTest() {
    }

    public static void main(String[] args) {
        StreamSentences.run();
        PathSentences.run();
        TextSentences.run();
        ActionSentences.run();
        ErrorSentences.run();
        TaskPromises.run();
        ActPromises.run();
        AskedPromises.run();
        ChancePromises.run();
        boolean right = Checks.end();
        String unquoted = Document.unquoted();
        if (!unquoted.isEmpty()) {
            System.out.println("no test quotes these words of the document:\n" + unquoted);
            right = false;
        }
        if (!right) {
            System.exit(1);
        }
    }
}
