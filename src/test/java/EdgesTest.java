import java.io.IOException;

/** Each sentence of the document that names an edge, by the promise that it is of; run from the project's folder. */
public final class EdgesTest {
    public static void main(String[] args) throws IOException {
        Check check = new Check();
        Book book = new Book(check);
        new EdgesOfPrices(book).run();
        new EdgesOfTaps(book).run();
        new EdgesOfRides(book).run();
        new EdgesOfOwed(book).run();
        new EdgesOfLists(book).run();
        new EdgesOfImages(book).run();
        new EdgesOfRefusals(book).run();
        book.end();
        check.end();
    }
}
