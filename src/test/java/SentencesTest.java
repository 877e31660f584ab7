import java.io.IOException;

/** Every sentence of the document with a test of its own; runs in the project's directory, for ../shared/DOC.md. */
public final class SentencesTest {
    public static void main(String[] args) throws IOException {
        Book book = new Book();
        FaceSentences.all(book);
        TextSentences.all(book);
        ActionSentences.all(book);
        LookSentences.all(book);
        SizeSentences.all(book);
        book.end();
    }
}
