/** What promises 10 to 12 say of bounds: mark, staff, count. */
final class MarksBounds {
    private final Sentences doc;

    private MarksBounds(Sentences doc) {
        this.doc = doc;
    }

    static void play(Sentences doc) {
        MarksBounds bounds = new MarksBounds(doc);
        bounds.mark();
        bounds.markRefused();
        bounds.staff();
        bounds.staffRefused();
        bounds.count();
        bounds.countRefused();
    }

    private void mark() {
        doc.promise(10, "MARK of PUPIL p for WORK w becomes v");
        PeerMarks x = Houses.of(3);
        x.mark(0, 1, 0);
        x.mark(2, 1, 100);
        doc.due("0 and 100 are both marks", x.count(1), 2);
        doc.due("0 and 100 are as they were given", x.spread(1), 100);
        x.mark(2, 1, 1);
        doc.due("the later mark stands in the place of the first", x.count(1), 2);
        doc.due("0 and 1", x.spread(1), 1);
        doc.due("the mark is for work 1", x.piece(1, 0), 0);
        doc.due("and of pupil 2", x.piece(2, 1), 0);
        doc.due("not for work 2", x.piece(2, 0), PeerMarks.NONE);

        doc.promise(10, "with v = NONE there is none");
        x.mark(2, 1, PeerMarks.NONE);
        doc.due("one is left", x.count(1), 1);
        doc.due("2 is no marker", x.piece(2, 1), PeerMarks.NONE);
        x.mark(0, 1, PeerMarks.NONE);
        doc.due("none is left", x.count(1), 0);
        doc.dueAlike("a house as if there never had been one", x, Houses.of(3));

        doc.promise(10, "what it was (NONE).");
        PeerMarks y = new PeerMarks();
        doc.due("taken away where there is none", y.mark(1, 0, -1), PeerMarks.NONE);
        int was = PeerMarks.NONE;
        for (int v = 0; v <= 100; v++) {
            doc.due("mark(1, 0, " + v + ")", y.mark(1, 0, v), was);
            was = v;
        }
        doc.due("the same again", y.mark(1, 0, 100), 100);
        doc.due("taken away", y.mark(1, 0, -1), 100);
        doc.due("taken away again", y.mark(1, 0, -1), PeerMarks.NONE);
        doc.due("the other way round is another mark", y.mark(0, 1, 7), PeerMarks.NONE);
    }

    private void markRefused() {
        doc.promise(10, "UNKNOWN, ");
        for (int k : Houses.outside(0, 4)) {
            for (int v : new int[] {-2, -1, 50, 101}) {
                String rest = ", " + v + ")";
                doc.refused(Houses::busy, "mark(" + k + ", 0" + rest, x -> x.mark(k, 0, v), PeerMarks.UNKNOWN);
                doc.refused(Houses::busy, "mark(4, " + k + rest, x -> x.mark(4, k, v), PeerMarks.UNKNOWN);
                doc.refused(Houses::busy, "mark(" + k + ", " + k + rest, x -> x.mark(k, k, v), PeerMarks.UNKNOWN);
            }
        }

        doc.promise(10, "OUTSIDE");
        for (int v : Houses.outside(-1, 100)) {
            doc.refused(Houses::busy, "there is a mark: mark(0, 1, " + v + ")", x -> x.mark(0, 1, v), PeerMarks.OUTSIDE);
            doc.refused(Houses::busy, "there is none: mark(0, 4, " + v + ")", x -> x.mark(0, 4, v), PeerMarks.OUTSIDE);
            doc.refused(Houses::busy, "its own: mark(4, 4, " + v + ")", x -> x.mark(4, 4, v), PeerMarks.OUTSIDE);
        }

        doc.promise(10, "NOT: it is its own.");
        for (int p = 0; p < 5; p++) {
            int k = p;
            for (int v : new int[] {-1, 0, 100}) {
                doc.refused(Houses::busy, "mark(" + p + ", " + p + ", " + v + ")", x -> x.mark(k, k, v), PeerMarks.NOT);
            }
        }
    }

    private void staff() {
        doc.promise(11, "STAFF mark of a WORK, likewise.");
        PeerMarks x = Houses.of(8);
        for (int w = 0; w < 8; w++) {
            doc.due("staff(" + w + ", -1) where there is none", x.staff(w, -1), PeerMarks.NONE);
            doc.due("staff(" + w + ", 0)", x.staff(w, 0), PeerMarks.NONE);
            doc.due("worth(" + w + ", 0)", x.worth(w, 0), 0);
            doc.due("staff(" + w + ", 100)", x.staff(w, 100), 0);
            doc.due("worth(" + w + ", 0)", x.worth(w, 0), 100);
        }
        doc.due("all works", x.count(2), 8);
        for (int w = 0; w < 8; w++) {
            doc.due("staff(" + w + ", -1)", x.staff(w, -1), 100);
            doc.due("staff(" + w + ", -1) again", x.staff(w, -1), PeerMarks.NONE);
        }
        doc.dueAlike("a house as if there never had been one", x, Houses.of(8));
        PeerMarks y = new PeerMarks();
        int was = PeerMarks.NONE;
        for (int v = 0; v <= 100; v++) {
            doc.due("staff(1, " + v + ")", y.staff(1, v), was);
            was = v;
        }
    }

    private void staffRefused() {
        doc.promise(11, "UNKNOWN, ");
        for (int k : Houses.outside(0, 4)) {
            for (int v : new int[] {-2, -1, 50, 101}) {
                doc.refused(Houses::busy, "staff(" + k + ", " + v + ")", x -> x.staff(k, v), PeerMarks.UNKNOWN);
            }
        }

        doc.promise(11, "OUTSIDE.");
        for (int v : Houses.outside(-1, 100)) {
            doc.refused(Houses::busy, "there is a mark: staff(0, " + v + ")", x -> x.staff(0, v), PeerMarks.OUTSIDE);
            doc.refused(Houses::busy, "there is none: staff(4, " + v + ")", x -> x.staff(4, v), PeerMarks.OUTSIDE);
        }
    }

    private void count() {
        doc.promise(12, "How many: 0 PUPILS");
        for (int n = 2; n <= 8; n++) {
            doc.due("of " + n, Houses.of(n).count(0), n);
        }

        doc.promise(12, "1 MARKS");
        PeerMarks x = Houses.of(8);
        doc.due("none", x.count(1), 0);
        Houses.markAll(x, 8);
        doc.due("all that there can be", x.count(1), 56);
        x.mark(7, 6, -1);
        doc.due("all but one", x.count(1), 55);
        x.staff(0, 1);
        doc.due("a STAFF mark is none", x.count(1), 55);

        doc.promise(12, "2 STAFF marks");
        doc.due("one", x.count(2), 1);
        for (int w = 0; w < 8; w++) {
            x.staff(w, 0);
        }
        doc.due("all that there can be", x.count(2), 8);
        doc.due("none", Houses.of(8).count(2), 0);

        doc.promise(12, "3 PIECES");
        doc.due("all in one", x.count(3), 1);
        doc.due("none", Houses.of(8).count(3), 0);
        PeerMarks ring = Houses.of(8);
        for (int p = 0; p < 8; p++) {
            ring.mark(p, (p + 1) % 8, 50);
            doc.due("one more", ring.count(3), p + 1);
        }
        ring.mark(0, 2, 50);
        doc.due("two were tied", ring.count(3), 7);

        doc.promise(12, "4 LARGE ones");
        doc.due("all in one", x.count(4), 1);
        doc.due("small ones alone", ring.count(4), 0);
        doc.due("none", Houses.of(8).count(4), 0);
        PeerMarks edge = Houses.large();
        doc.due("eleven things", edge.count(4), 1);
        doc.due("and a small one", edge.count(3), 2);
        edge.mark(3, 1, -1);
        doc.due("ten things", edge.count(4), 0);
        doc.due("still two", edge.count(3), 2);

        countOfAppealsAndFriends();
    }

    private void countOfAppealsAndFriends() {
        doc.promise(12, "5 APPEALED WORKS");
        PeerMarks x = Houses.of(8);
        doc.due("none", x.count(5), 0);
        for (int w = 0; w < 8; w++) {
            x.mark((w + 1) % 8, w, 30);
            x.mark((w + 2) % 8, w, w % 2 == 0 ? 60 : 61);
        }
        doc.due("30 is not above 30, 31 is", x.count(5), 4);
        x.rule(2, 29);
        doc.due("all works", x.count(5), 8);
        x.rule(2, 31);
        doc.due("none is above 31", x.count(5), 0);

        doc.promise(12, "6 pairs of FRIENDS.");
        doc.due("none", x.count(6), 0);
        x.friends(7, 6, true);
        doc.due("one", x.count(6), 1);
        Houses.befriendAll(x, 8);
        doc.due("all that there can be", x.count(6), 28);
    }

    private void countRefused() {
        doc.promise(12, "OUTSIDE.");
        for (int what : Houses.outside(0, 6)) {
            doc.refused(Houses::busy, "count(" + what + ")", x -> x.count(what), PeerMarks.OUTSIDE);
        }
    }
}
