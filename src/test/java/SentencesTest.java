/** Every sentence of the document that names an edge, each with a test of its own. */
public final class SentencesTest {
    public static void main(String[] args) {
        Sentences sentences = new Sentences();
        EventTerms.testAll(sentences);
        CutTerms.testAll(sentences);
        ResultTerms.testAll(sentences);
        SettingSentences.testAll(sentences);
        ReportingSentences.testAll(sentences);
        LookingSentences.testAll(sentences);
        FindingSentences.testAll(sentences);
        sentences.end();
    }
}
