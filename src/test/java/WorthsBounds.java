/** What promises 13 to 16 say of bounds: piece, worth, lean, left. */
final class WorthsBounds {
    private static final int[] NO_KIND = Houses.outside(0, 1);

    private final Sentences doc;

    private WorthsBounds(Sentences doc) {
        this.doc = doc;
    }

    static void play(Sentences doc) {
        WorthsBounds bounds = new WorthsBounds(doc);
        bounds.piece();
        bounds.pieceRefused();
        bounds.worth();
        bounds.worthRefused();
        bounds.worthAsRefusals();
        bounds.lean();
        bounds.leanRefused();
        bounds.left();
        bounds.leftRefused();
    }

    /** Each pupil marks the next one's work: eight pieces. */
    private static PeerMarks ring() {
        PeerMarks x = Houses.of(8);
        for (int p = 0; p < 8; p++) {
            x.mark(p, (p + 1) % 8, 10 * p);
        }
        return x;
    }

    /** A large piece made small by the mark that was the eleventh thing. */
    private static PeerMarks justNotLarge() {
        PeerMarks x = Houses.large();
        x.mark(3, 1, -1);
        return x;
    }

    private void dueWorth(String house, PeerMarks x, int w, long top, long lower) {
        doc.dueFraction(house + ": worth(" + w + ", ..)", x.worth(w, 0), x.worth(w, 1), top, lower);
    }

    private void dueLean(String house, PeerMarks x, int p, long top, long lower) {
        doc.dueFraction(house + ": lean(" + p + ", ..)", x.lean(p, 0), x.lean(p, 1), top, lower);
    }

    private void dueLeft(String house, PeerMarks x, int p, int w, long top, long lower) {
        doc.dueFraction(house + ": left(" + p + ", " + w + ", ..)", x.left(p, w, 0), x.left(p, w, 1), top, lower);
    }

    private void piece() {
        doc.promise(13, "The PIECE of a WORK (what = 0)");
        PeerMarks x = new PeerMarks();
        x.mark(0, 1, 0);
        doc.due("piece(1, 0)", x.piece(1, 0), 0);
        PeerMarks all = Houses.of(8);
        Houses.markAll(all, 8);
        for (int k = 0; k < 8; k++) {
            doc.due("a large piece: piece(" + k + ", 0)", all.piece(k, 0), 0);
        }

        doc.promise(13, "of a PUPIL as a marker (1)");
        doc.due("piece(0, 1)", x.piece(0, 1), 0);
        for (int k = 0; k < 8; k++) {
            doc.due("a large piece: piece(" + k + ", 1)", all.piece(k, 1), 0);
        }

        doc.promise(13, "PIECES are numbered by their least WORKS");
        PeerMarks ring = ring();
        for (int k = 0; k < 8; k++) {
            doc.due("eight pieces: piece(" + k + ", 0)", ring.piece(k, 0), k);
            doc.due("eight pieces: piece(" + k + ", 1)", ring.piece(k, 1), (k + 1) % 8);
        }
        ring.mark(7, 0, -1);
        for (int k = 1; k < 8; k++) {
            doc.due("the first is gone: piece(" + k + ", 0)", ring.piece(k, 0), k - 1);
        }
        ring.mark(6, 1, 5);
        doc.due("work 7 has the number of work 1", ring.piece(7, 0), 0);
        doc.due("and so has its marker", ring.piece(6, 1), 0);
        doc.due("work 6 is the last", ring.piece(6, 0), 5);

        doc.promise(13, "NONE: it is in none.");
        PeerMarks none = Houses.of(8);
        none.staff(7, 50);
        none.friends(0, 1, true);
        for (int k = 0; k < 8; k++) {
            doc.due("no marks: piece(" + k + ", 0)", none.piece(k, 0), PeerMarks.NONE);
            doc.due("no marks: piece(" + k + ", 1)", none.piece(k, 1), PeerMarks.NONE);
        }
        doc.due("0 is a marker, its work has no mark", x.piece(0, 0), PeerMarks.NONE);
        doc.due("1 is no marker, its work has a mark", x.piece(1, 1), PeerMarks.NONE);
    }

    private void pieceRefused() {
        doc.promise(13, "UNKNOWN, ");
        for (int k : Houses.outside(0, 4)) {
            for (int what = -1; what <= 2; what++) {
                int c = what;
                doc.refused(Houses::busy, "piece(" + k + ", " + what + ")", x -> x.piece(k, c), PeerMarks.UNKNOWN);
            }
        }

        doc.promise(13, "OUTSIDE.");
        for (int what : NO_KIND) {
            doc.refused(Houses::busy, "in one: piece(0, " + what + ")", x -> x.piece(0, what), PeerMarks.OUTSIDE);
            doc.refused(Houses::busy, "in none: piece(4, " + what + ")", x -> x.piece(4, what), PeerMarks.OUTSIDE);
        }
    }

    private void worth() {
        doc.promise(14, "WORTH of a WORK, in least terms");
        PeerMarks x = Houses.of(4);
        x.mark(1, 0, 0);
        dueWorth("one mark of 0", x, 0, 0, 1);
        x.mark(2, 0, 100);
        dueWorth("0 and 100", x, 0, 50, 1);
        x.mark(3, 0, 50);
        dueWorth("150 thirds", x, 0, 50, 1);
        x.mark(3, 0, 51);
        dueWorth("151 thirds", x, 0, 151, 3);
        x.mark(3, 0, 52);
        dueWorth("152 thirds", x, 0, 152, 3);
        x.staff(0, 0);
        dueWorth("STAFF gave 0", x, 0, 0, 1);
        x.staff(0, 100);
        dueWorth("STAFF gave 100", x, 0, 100, 1);
        dueWorth("ten things, held to STAFF", justNotLarge(), 1, 44, 1);

        doc.promise(14, "what = 0 the upper number");
        PeerMarks below = Houses.of(4);
        below.staff(0, 0);
        below.mark(1, 0, 100);
        below.mark(1, 2, 0);
        doc.due("below 0", below.worth(2, 0), -100);
        doc.due("above 100", raised().worth(2, 0), 200);

        doc.promise(14, "1 the lower one (above 0).");
        doc.due("of a whole number", below.worth(2, 1), 1);
        doc.due("of 0", x.worth(0, 1), 1);
        x.staff(0, -1);
        doc.due("of thirds", x.worth(0, 1), 3);
        doc.due("of one below 0", deep(97).worth(3, 1), 6);
    }

    /** Pupil 1 is harsh by 100 at work 0, so a mark of 100 for work 2 is 200. */
    private static PeerMarks raised() {
        PeerMarks x = Houses.of(3);
        x.staff(0, 100);
        x.mark(1, 0, 0);
        x.mark(1, 2, 100);
        return x;
    }

    private void worthRefused() {
        doc.promise(14, "UNKNOWN, ");
        for (int k : Houses.outside(0, 4)) {
            for (int what = -1; what <= 2; what++) {
                int c = what;
                doc.refused(Houses::busy, "worth(" + k + ", " + what + ")", x -> x.worth(k, c), PeerMarks.UNKNOWN);
            }
        }

        doc.promise(14, "OUTSIDE");
        for (int what : NO_KIND) {
            String rest = ", " + what + ")";
            doc.refused(Houses::busy, "it has one: worth(0" + rest, x -> x.worth(0, what), PeerMarks.OUTSIDE);
            doc.refused(Houses::busy, "it has none: worth(4" + rest, x -> x.worth(4, what), PeerMarks.OUTSIDE);
            doc.refused(Houses::large, "large: worth(5" + rest, x -> x.worth(5, what), PeerMarks.OUTSIDE);
            doc.refused(Houses::large, "large, with STAFF: worth(1" + rest, x -> x.worth(1, what), PeerMarks.OUTSIDE);
        }

        doc.promise(14, "NOT: it has none");
        for (int what = 0; what < 2; what++) {
            int c = what;
            doc.refused(PeerMarks::new, "a new object: worth(0, " + c + ")", x -> x.worth(0, c), PeerMarks.NOT);
            doc.refused(Houses::busy, "a marker's own: worth(4, " + c + ")", x -> x.worth(4, c), PeerMarks.NOT);
        }
        PeerMarks y = new PeerMarks();
        y.mark(0, 1, 5);
        y.mark(0, 1, -1);
        doc.due("its mark was taken away", y.worth(1, 0), PeerMarks.NOT);
        y.staff(1, 5);
        y.staff(1, -1);
        doc.due("its STAFF mark was taken away", y.worth(1, 1), PeerMarks.NOT);

        doc.promise(14, "or its PIECE is LARGE.");
        for (int w = 1; w < 8; w++) {
            int k = w;
            doc.refused(Houses::large, "worth(" + w + ", 0)", x -> x.worth(k, 0), PeerMarks.NOT);
            doc.refused(Houses::large, "worth(" + w + ", 1)", x -> x.worth(k, 1), PeerMarks.NOT);
            doc.isTrue("ten things: worth(" + w + ", 1)", justNotLarge().worth(w, 1) > 0);
        }
        dueWorth("a small piece beside it", Houses.large(), 0, 30, 1);
    }

    /**
     * Pupils 1, 2, 4 and 5 marked work 0; 5 and 6 work 1; 6 and 7 work 2; 7 gave work 3 a 0. Against
     * one another they lean by first, 0, 0, 100, 200 and 280, so 7 by 280 less the mean of these,
     * (1100 - first) / 6, and work 3 is worth as much below 0.
     */
    private static PeerMarks deep(int first) {
        PeerMarks x = Houses.of(8);
        x.mark(1, 0, first);
        x.mark(2, 0, 0);
        x.mark(4, 0, 0);
        x.mark(5, 0, 100);
        x.mark(5, 1, 0);
        x.mark(6, 1, 100);
        x.mark(6, 2, 0);
        x.mark(7, 2, 80);
        x.mark(7, 3, 0);
        return x;
    }

    private void worthAsRefusals() {
        doc.promise(14, "(What is told may be as a refusal is; so below.)");
        dueWorth("as NOT", deep(97), 3, PeerMarks.NOT, 6);
        dueWorth("as UNKNOWN", deep(99), 3, PeerMarks.UNKNOWN, 6);
        dueWorth("1002 sixths are whole", deep(98), 3, -167, 1);
        dueLean("as NOT", harsh(83), 7, PeerMarks.NOT, 7);
        dueLean("as OUTSIDE", harsh(82), 7, PeerMarks.OUTSIDE, 7);
        dueLean("1001 sevenths are whole", harsh(81), 7, -143, 1);
        dueLeft("as NOT", crossed(2), 0, 4, PeerMarks.NOT, 16);
        dueLeft("as UNKNOWN", crossed(4), 0, 4, PeerMarks.UNKNOWN, 16);
        dueLeft("1002 sixteenths are 501 eighths", crossed(3), 0, 4, -501, 8);
        PeerMarks x = Houses.of(3);
        x.staff(0, 0);
        x.mark(1, 0, 1);
        x.mark(1, 2, 0);
        dueWorth("as NONE", x, 2, PeerMarks.NONE, 1);
    }

    /**
     * Seven markers, who lean by 100, 100, 100, fourth, 0, -100 and -120 against one another: 7, the
     * last one, by -120 less the mean of these, (-920 - fourth) / 7.
     */
    private static PeerMarks harsh(int fourth) {
        PeerMarks x = Houses.of(8);
        x.mark(1, 0, 100);
        x.mark(2, 0, 100);
        x.mark(3, 0, 100);
        x.mark(4, 0, fourth);
        x.mark(5, 0, 0);
        x.mark(5, 1, 100);
        x.mark(6, 1, 0);
        x.mark(6, 2, 20);
        x.mark(7, 2, 0);
        return x;
    }

    /**
     * Four pupils marked four works: then what is left of a mark is it less the means of its pupil and
     * of its work and with the mean of all. Of (0, 4): (-4 * 235 - 4 * 100 + 335 + last) / 16.
     */
    private static PeerMarks crossed(int last) {
        PeerMarks x = Houses.of(8);
        for (int p = 0; p < 4; p++) {
            for (int w = 4; w < 8; w++) {
                x.mark(p, w, 0);
            }
        }
        x.mark(0, 5, 100);
        x.mark(0, 6, 100);
        x.mark(0, 7, 35);
        x.mark(1, 4, 100);
        x.mark(2, 6, last);
        return x;
    }

    private void lean() {
        doc.promise(15, "LEAN of a PUPIL, likewise.");
        PeerMarks x = Houses.of(4);
        x.mark(1, 0, 40);
        dueLean("one marker alone", x, 1, 0, 1);
        x.mark(2, 0, 60);
        dueLean("the harsh one of two", x, 1, -10, 1);
        dueLean("the kind one of two", x, 2, 10, 1);
        x.mark(3, 0, 60);
        dueLean("the harsh one of three", x, 1, -40, 3);
        dueLean("a kind one of three", x, 3, 20, 3);
        x.staff(0, 100);
        dueLean("held to STAFF", x, 1, -60, 1);
        x.staff(0, 0);
        dueLean("held to a STAFF mark of 0", x, 1, 40, 1);
        dueLean("as harsh as can be", raised(), 1, -100, 1);
        PeerMarks twice = Houses.of(3);
        twice.staff(0, 0);
        twice.staff(2, 1);
        twice.mark(1, 0, 0);
        twice.mark(1, 2, 0);
        dueLean("half a mark harsh", twice, 1, -1, 2);
    }

    private void leanRefused() {
        doc.promise(15, "UNKNOWN, ");
        for (int k : Houses.outside(0, 4)) {
            for (int what = -1; what <= 2; what++) {
                int c = what;
                doc.refused(Houses::busy, "lean(" + k + ", " + what + ")", x -> x.lean(k, c), PeerMarks.UNKNOWN);
            }
        }

        doc.promise(15, "OUTSIDE");
        for (int what : NO_KIND) {
            String rest = ", " + what + ")";
            doc.refused(Houses::busy, "a marker: lean(0" + rest, x -> x.lean(0, what), PeerMarks.OUTSIDE);
            doc.refused(PeerMarks::new, "no marker: lean(1" + rest, x -> x.lean(1, what), PeerMarks.OUTSIDE);
            doc.refused(Houses::large, "large: lean(3" + rest, x -> x.lean(3, what), PeerMarks.OUTSIDE);
        }

        doc.promise(15, "NOT: it is no marker");
        for (int what = 0; what < 2; what++) {
            int c = what;
            doc.refused(PeerMarks::new, "a new object: lean(1, " + c + ")", x -> x.lean(1, c), PeerMarks.NOT);
            doc.refused(WorthsBounds::raised, "its work is marked: lean(0, " + c + ")", x -> x.lean(0, c), PeerMarks.NOT);
        }
        PeerMarks y = raised();
        y.mark(1, 0, -1);
        dueLean("one mark is left", y, 1, 0, 1);
        y.mark(1, 2, -1);
        doc.due("all its marks were taken away", y.lean(1, 0), PeerMarks.NOT);

        doc.promise(15, "or its PIECE is LARGE.");
        for (int p = 0; p < 4; p++) {
            int k = p;
            doc.refused(Houses::large, "lean(" + p + ", 0)", x -> x.lean(k, 0), PeerMarks.NOT);
            doc.refused(Houses::large, "lean(" + p + ", 1)", x -> x.lean(k, 1), PeerMarks.NOT);
            doc.isTrue("ten things: lean(" + p + ", 1)", p == 3 || justNotLarge().lean(p, 1) > 0);
        }
        dueLean("a small piece beside it", Houses.large(), 7, 0, 1);
    }

    private void left() {
        doc.promise(16, "What is left of MARK of PUPIL p for WORK w: it less the WORTH less the LEAN, likewise.");
        PeerMarks x = Houses.of(4);
        x.mark(0, 2, 0);
        dueLeft("one mark", x, 0, 2, 0, 1);
        x.mark(0, 3, 100);
        x.mark(1, 2, 100);
        dueLeft("three marks of two for two", x, 0, 3, 0, 1);
        x.mark(1, 3, 0);
        dueLeft("crosswise", x, 0, 2, -50, 1);
        dueLeft("crosswise", x, 0, 3, 50, 1);
        dueLeft("crosswise", x, 1, 2, 50, 1);
        dueLeft("crosswise", x, 1, 3, -50, 1);
        x.mark(1, 3, 1);
        dueLeft("crosswise but for one", x, 0, 2, -199, 4);
        dueLeft("crosswise but for one", x, 1, 2, 199, 4);
        x.staff(2, 0);
        x.staff(3, 0);
        dueLeft("held to STAFF", x, 0, 2, -50, 1);
        dueLeft("held to STAFF", x, 1, 3, -99, 2);
        for (int w = 1; w < 8; w++) {
            PeerMarks y = justNotLarge();
            Fraction sum = fraction(y.left(0, w, 0), y.left(0, w, 1))
                    .plus(fraction(y.worth(w, 0), y.worth(w, 1))).plus(fraction(y.lean(0, 0), y.lean(0, 1)));
            doc.dueFraction("ten things: left, WORTH and LEAN make MARK " + w, sum.number(0), sum.number(1), 10 * w, 1);
        }
    }

    private static Fraction fraction(long top, long lower) {
        return Fraction.of(top).over(Fraction.of(lower));
    }

    private void leftRefused() {
        doc.promise(16, "UNKNOWN, ");
        for (int k : Houses.outside(0, 4)) {
            for (int what = -1; what <= 2; what++) {
                int c = what;
                String rest = ", " + what + ")";
                doc.refused(Houses::busy, "left(" + k + ", 0" + rest, x -> x.left(k, 0, c), PeerMarks.UNKNOWN);
                doc.refused(Houses::busy, "left(4, " + k + rest, x -> x.left(4, k, c), PeerMarks.UNKNOWN);
                doc.refused(Houses::busy, "left(" + k + ", " + k + rest, x -> x.left(k, k, c), PeerMarks.UNKNOWN);
            }
        }

        doc.promise(16, "OUTSIDE");
        for (int what : NO_KIND) {
            String rest = ", " + what + ")";
            doc.refused(Houses::busy, "a mark: left(0, 1" + rest, x -> x.left(0, 1, what), PeerMarks.OUTSIDE);
            doc.refused(Houses::busy, "no mark: left(0, 4" + rest, x -> x.left(0, 4, what), PeerMarks.OUTSIDE);
            doc.refused(Houses::busy, "its own: left(0, 0" + rest, x -> x.left(0, 0, what), PeerMarks.OUTSIDE);
            doc.refused(Houses::large, "large: left(0, 1" + rest, x -> x.left(0, 1, what), PeerMarks.OUTSIDE);
        }

        doc.promise(16, "NOT: there is no such MARK");
        for (int what = 0; what < 2; what++) {
            int c = what;
            String rest = ", " + what + ")";
            doc.refused(PeerMarks::new, "a new object: left(0, 1" + rest, x -> x.left(0, 1, c), PeerMarks.NOT);
            doc.refused(Houses::busy, "its own: left(0, 0" + rest, x -> x.left(0, 0, c), PeerMarks.NOT);
            doc.refused(Houses::busy, "of one piece: left(0, 3" + rest, x -> x.left(0, 3, c), PeerMarks.NOT);
            doc.refused(Houses::busy, "of two pieces: left(3, 1" + rest, x -> x.left(3, 1, c), PeerMarks.NOT);
        }
        PeerMarks y = raised();
        y.mark(1, 2, -1);
        doc.due("it was taken away", y.left(1, 2, 0), PeerMarks.NOT);
        dueLeft("the other one is there", y, 1, 0, 0, 1);

        doc.promise(16, "or its PIECE is LARGE.");
        for (int w = 1; w < 8; w++) {
            int k = w;
            doc.refused(Houses::large, "left(0, " + w + ", 0)", x -> x.left(0, k, 0), PeerMarks.NOT);
            doc.refused(Houses::large, "left(0, " + w + ", 1)", x -> x.left(0, k, 1), PeerMarks.NOT);
        }
        dueLeft("a small piece beside it", Houses.large(), 7, 0, 0, 1);
    }
}
