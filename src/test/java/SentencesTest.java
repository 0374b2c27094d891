import java.io.IOException;
import java.util.List;

/** Each sentence of the document by itself, with the words that it is for: what is sentences/ holds, in one run. */
public final class SentencesTest {
    public static void main(String[] args) throws IOException {
        Due due = new Due();
        Book book = new Book(due);
        List<Sentences> parts = List.of(new ThingsSentences(book), new BoundsSentences(book), new SearchSentences(book),
            new ChoiceSentences(book), new TextsSentences(book),
            new HistorySentences(book), new ErrorsSentences(book), new ThingActsSentences(book),
            new SearchActsSentences(book), new TextActsSentences(book), new ToldSentences(book));
        for (Sentences part : parts) part.all();
        book.end();
        due.end();
    }
}
