import java.io.IOException;

/**
 * For each sentence of the document that names a boundary case a test of its own, which tells the
 * promise and the sentence: promises 1 to 60, and the Terms that they lean on.
 */
public final class BoundsTest {
    public static void main(String[] args) throws IOException {
        Document document = new Document();
        new BoundsOfTerms(document).all();
        new BoundsOfShelves(document).all();
        new BoundsOfShop(document).all();
        new BoundsOfThought(document).all();
        new BoundsOfSlates(document).all();
        new BoundsOfPacks(document).all();
        new BoundsOfTruth(document).all();
        document.end();
    }
}
