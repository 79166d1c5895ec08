/** Each sentence of the document has a test of its own: ordinary inputs, its edges, and wrong inputs. */
final class SentencesTest {
    private SentencesTest() {
    }

    public static void main(String[] args) {
        TermSentences.tell();
        DecomposableSentences.tell();
        SettingSentences.tell();
        ResultSentences.tell();
        TextSentences.tell();
        SnapshotSentences.tell();
        LookSentences.tell();
        Sentences.end();
        Check.end("SentencesTest");
    }
}
