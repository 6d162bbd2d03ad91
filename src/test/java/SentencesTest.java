/** Each sentence of the document at its boundaries; none may be left that no test stands under. */
public final class SentencesTest extends Quoting {
    public static void main(String[] args) {
        SessionTerms.run();
        EditingTerms.run();
        ActsTerms.run();
        PromiseSentences.run();
        due("sections of the document", DOCUMENT.size(), 41);
        dueAllQuoted(Document.USE);
        dueAllQuoted(Document.TERMS);
        dueAllQuoted("Promise ");
        tell();
    }
}
