import java.io.IOException;

/** Every sentence of the document that names a boundary case has a test of its own. */
public final class BoundariesTest {
    public static void main(String[] args) throws IOException {
        Sentences sentences = new Sentences();
        new BoundsOfTerms(sentences).hold();
        new BoundsOfRows(sentences).hold();
        new BoundsOfStreets(sentences).hold();
        new BoundsOfHours(sentences).hold();
        new BoundsOfWhoWasLoud(sentences).hold();
        new BoundsOfTogether(sentences).hold();
        new BoundsOfDebts(sentences).hold();
        new BoundsOfTold(sentences).hold();
        sentences.end();
    }
}
