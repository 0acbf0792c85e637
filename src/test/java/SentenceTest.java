/** Each sentence of the document that a call could break, tested under its own words. */
public final class SentenceTest {
    private SentenceTest() {
    }

    public static void main(String[] args) {
        Check check = new Check();
        Document document = new Document(check);
        new TermSentences(check, document).run();
        new PromiseSentences(check, document).run();
        new ArgumentSentences(check, document).run();
        new RefusalSentences(check, document).run();
        document.end();
        check.end();
    }
}
