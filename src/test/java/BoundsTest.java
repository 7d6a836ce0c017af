import java.io.IOException;
import java.nio.file.Path;

/**
 * The document's sentences one after the other, each with a test of its own: what is just within a
 * bound and just outside it, what is refused, what is empty and what is full.
 */
final class BoundsTest {
    /** "An object is used for at most 512 calls after it has been made": the last one is still answered. */
    private static void lastCall(Sentences doc) {
        PeerMarks x = new PeerMarks();
        for (int call = 1; call < 512; call++) {
            x.mark(0, 1, call % 101);
        }
        doc.due("the 512th call", x.mark(0, 1, -1), 511 % 101);
    }

    public static void main(String[] args) throws IOException {
        Sentences doc = new Sentences(Path.of("../shared/DOC.md"));
        TermsBounds.play(doc);
        MarkTermsBounds.play(doc);
        HouseBounds.play(doc);
        SharingBounds.play(doc);
        MarksBounds.play(doc);
        WorthsBounds.play(doc);
        OrdersBounds.play(doc);
        AppealsBounds.play(doc);
        lastCall(doc);
        doc.end();
    }
}
