import java.math.BigInteger;

/** What promises 21 to 23 say of bounds: spread, next, digest. */
final class AppealsBounds {
    private final Sentences doc;

    private AppealsBounds(Sentences doc) {
        this.doc = doc;
    }

    static void play(Sentences doc) {
        AppealsBounds bounds = new AppealsBounds(doc);
        bounds.spread();
        bounds.next();
        bounds.digest();
        bounds.digestWraps();
    }

    private void spread() {
        doc.promise(21, "SPREAD of a WORK.");
        PeerMarks x = Houses.of(8);
        for (int w = 0; w < 8; w++) {
            doc.due("no marks: spread(" + w + ")", x.spread(w), 0);
        }
        x.mark(7, 0, 100);
        doc.due("one mark", x.spread(0), 0);
        x.mark(1, 0, 100);
        doc.due("two alike", x.spread(0), 0);
        x.mark(4, 0, 99);
        doc.due("the least that is one", x.spread(0), 1);
        x.mark(4, 0, 0);
        doc.due("the greatest", x.spread(0), 100);
        doc.due("of another work", x.spread(7), 0);
        x.mark(4, 0, -1);
        doc.due("the least mark was taken away", x.spread(0), 0);

        doc.promise(21, "UNKNOWN.");
        for (int k : Houses.outside(0, 4)) {
            doc.refused(Houses::busy, "spread(" + k + ")", y -> y.spread(k), PeerMarks.UNKNOWN);
        }
        for (int n = 2; n <= 8; n++) {
            doc.due("the last of " + n, Houses.of(n).spread(n - 1), 0);
            doc.due("behind the last of " + n, Houses.of(n).spread(n), PeerMarks.UNKNOWN);
        }
    }

    private void next() {
        doc.promise(22, "ITS NEXT marker.");
        PeerMarks x = Houses.of(8);
        doc.due("of work 0", x.next(0), 1);
        doc.due("of work 7", x.next(7), 0);
        for (int p = 1; p < 8; p++) {
            doc.due("one after the other", x.next(0), p);
            x.mark(p, 0, 50);
        }
        doc.due("all have", x.next(0), PeerMarks.NONE);
        doc.due("of another work: 0 has no mark yet", x.next(1), 0);
        doc.due("two", new PeerMarks().next(0), 1);

        doc.promise(22, "UNKNOWN.");
        for (int k : Houses.outside(0, 4)) {
            doc.refused(Houses::busy, "next(" + k + ")", y -> y.next(k), PeerMarks.UNKNOWN);
        }
        for (int n = 2; n <= 8; n++) {
            doc.due("the last of " + n, Houses.of(n).next(n - 1), 0);
            doc.due("behind the last of " + n, Houses.of(n).next(n), PeerMarks.UNKNOWN);
        }
    }

    /** The digest of a row of numbers, without bounds; what an int keeps of it is told. */
    private static BigInteger unwrapped(int... row) {
        BigInteger d = BigInteger.valueOf(7);
        for (int v : row) {
            d = d.multiply(BigInteger.valueOf(31)).add(BigInteger.valueOf(v));
        }
        return d;
    }

    private void digest() {
        doc.promise(23, "A digest: d is 7; for each WORK, by numbers: for each PUPIL, by numbers, its MARK");
        PeerMarks x = new PeerMarks();
        x.mark(1, 0, 100);
        doc.due("of work 0 by pupil 1", x.digest(), unwrapped(-1, 100, -1, -1, -1, -1).intValue());
        x.mark(0, 1, 0);
        doc.due("of work 1 by pupil 0", x.digest(), unwrapped(-1, 100, -1, 0, -1, -1).intValue());
        PeerMarks y = Houses.of(3);
        y.mark(0, 1, 1);
        y.mark(0, 2, 2);
        y.mark(1, 0, 3);
        y.mark(1, 2, 4);
        y.mark(2, 0, 5);
        y.mark(2, 1, 6);
        doc.due("of three", y.digest(), unwrapped(-1, 3, 5, -1, 1, -1, 6, -1, 2, 4, -1, -1).intValue());

        doc.promise(23, "(NONE: -1)");
        doc.due("a new object", new PeerMarks().digest(), unwrapped(-1, -1, -1, -1, -1, -1).intValue());
        x.mark(1, 0, -1);
        doc.due("one was taken away", x.digest(), unwrapped(-1, -1, -1, 0, -1, -1).intValue());

        doc.promise(23, "then the STAFF mark");
        y.staff(0, 7);
        y.staff(1, 0);
        y.staff(2, 100);
        doc.due("of three", y.digest(), unwrapped(-1, 3, 5, 7, 1, -1, 6, 0, 2, 4, -1, 100).intValue());
        y.friends(0, 1, true);
        y.rule(0, 1);
        y.rule(2, 100);
        doc.due("nothing else is in it", y.digest(), unwrapped(-1, 3, 5, 7, 1, -1, 6, 0, 2, 4, -1, 100).intValue());
        y.staff(1, -1);
        doc.due("one was taken away", y.digest(), unwrapped(-1, 3, 5, 7, 1, -1, 6, -1, 2, 4, -1, 100).intValue());
    }

    private void digestWraps() {
        doc.promise(23, "d becomes 31 d and that (wrapping).");
        doc.due("a new object, by hand: 6182942311 less 2 to the 32", new PeerMarks().digest(), 1887975015);
        int below = 0;
        int above = 0;
        for (int n = 2; n <= 8; n++) {
            for (int v = -1; v <= 100; v += 101) {
                PeerMarks x = Houses.of(n);
                int[] row = new int[n * (n + 1)];
                for (int w = 0; w < n; w++) {
                    for (int p = 0; p < n; p++) {
                        x.mark(p, w, v);
                        row[w * (n + 1) + p] = p == w ? -1 : v;
                    }
                    x.staff(w, v);
                    row[w * (n + 1) + n] = v;
                }
                int d = x.digest();
                doc.due("all are " + v + " of " + n, d, unwrapped(row).intValue());
                doc.isTrue("it has wrapped", unwrapped(row).bitLength() > 31);
                below += d < 0 ? 1 : 0;
                above += d < 0 ? 0 : 1;
            }
        }
        doc.isTrue("some are below 0, and some not", below > 0 && above > 0);
    }
}
