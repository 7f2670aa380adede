/** Each sentence of ../shared/DOC.md has a test of its own; those that no test tells are failures. */
public final class SentenceTests {
    public static void main(String[] args) {
        TextSentences.all();
        CacheSentences.all();
        DeedSentences.all();
        TroubleSentences.all();
        LookSentences.all();
        RunSentences.all();
        Document.end();
        Check.end("SentenceTests");
    }
}
