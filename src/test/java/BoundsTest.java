import java.io.IOException;

/**
 * The document's sentences one after the other, each with a test of its own: what is just within a
 * bound and just outside it, what is refused, what is empty and what is full.
 */
final class BoundsTest {
    public static void main(String[] args) throws IOException {
        Sentences doc = new Sentences(new Document());
        OpeningBounds.play(doc);
        TermsBounds.play(doc);
        MarkTermsBounds.play(doc);
        HouseBounds.play(doc);
        SharingBounds.play(doc);
        MarksBounds.play(doc);
        WorthsBounds.play(doc);
        OrdersBounds.play(doc);
        AppealsBounds.play(doc);
        doc.end();
    }
}
