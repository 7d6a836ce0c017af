/** What the sections 2 to 4 of "Terms" say of marks, orders, pieces and appeals. */
final class MarkTermsBounds {
    private static final int OUTSIDE = PeerMarks.OUTSIDE, NOT = PeerMarks.NOT, NONE = PeerMarks.NONE;

    private final Sentences doc;

    private MarkTermsBounds(Sentences doc) {
        this.doc = doc;
    }

    static void play(Sentences doc) {
        MarkTermsBounds bounds = new MarkTermsBounds(doc);
        bounds.marks();
        bounds.orders();
        bounds.theOrder();
        bounds.pieces();
        bounds.worthsAndLeans();
        bounds.heldToStaff();
        bounds.largePieces();
        bounds.spreads();
        bounds.nextMarkers();
    }

    private void marks() {
        doc.terms("MARKS: a PUPIL's for a WORK that is not its own (whether it MAY or not), 0 .. 100, one at most");
        PeerMarks x = Houses.of(3);
        x.friends(0, 1, true);
        doc.due("a friend's", x.mark(0, 1, 60), NONE);
        doc.due("its own", x.mark(0, 0, 60), NOT);
        doc.due("beyond LOAD", Houses.of(3, 1, 1).mark(0, 2, 60), NONE);
        doc.due("the least", x.mark(0, 2, 0), NONE);
        doc.due("below it", x.mark(0, 2, -2), OUTSIDE);
        doc.due("the greatest", x.mark(0, 2, 100), 0);
        doc.due("above it", x.mark(0, 2, 101), OUTSIDE);
        doc.due("one for each work", x.count(1), 2);

        doc.terms("STAFF marks of WORKS, 0 .. 100.");
        doc.due("the least", x.staff(2, 0), NONE);
        doc.due("below it", x.staff(2, -2), OUTSIDE);
        doc.due("the greatest", x.staff(2, 100), 0);
        doc.due("above it", x.staff(2, 101), OUTSIDE);
        doc.due("one at most", x.count(2), 1);
        doc.due("they are no MARKS", x.count(1), 2);
    }

    private void orders() {
        doc.terms("ORDERS: rows of all WORKS.");
        for (int n = 2; n <= 8; n++) {
            PeerMarks x = Houses.of(n);
            Houses.markAll(x, n);
            int seen = 0;
            for (int i = 0; i < n; i++) {
                seen |= 1 << x.order(i);
            }
            doc.due("all works of " + n, seen, (1 << n) - 1);
        }

        doc.terms("A PUPIL turns two WORKS that it marked, if it gave the one that stands ahead in an ORDER less than the other one.");
        PeerMarks x = oneAgainst(0, 1);
        doc.due("less", x.turned(3), 1);
        doc.due("as much", oneAgainst(1, 1).turned(3), 0);
        doc.due("more", oneAgainst(1, 0).turned(3), 0);
        x.mark(3, 1, NONE);
        doc.due("one alone, with 0", x.turned(3), 0);
        x = oneAgainst(0, 1);
        x.mark(3, 0, NONE);
        doc.due("one alone, the other has no mark", x.turned(3), 0);

        doc.terms("QUARREL of an ORDER: how often two WORKS are turned by a PUPIL.");
        doc.due("one pupil, one pair", oneAgainst(0, 1).quarrel(), 1);
        doc.due("a pair that none turns", oneAgainst(1, 1).quarrel(), 0);
        PeerMarks camps = OrdersBounds.twoCamps();
        int sum = 0;
        for (int p = 0; p < 8; p++) {
            sum += camps.turned(p);
        }
        doc.due("of all pupils", camps.quarrel(), sum);
        doc.due("by hand", camps.quarrel(), 72);
    }

    /** Pupil 2 and 4 have work 0 ahead of work 1; 3 gave them these marks. */
    private static PeerMarks oneAgainst(int first, int second) {
        PeerMarks x = Houses.of(5);
        x.mark(2, 0, 100);
        x.mark(2, 1, 0);
        x.mark(4, 0, 50);
        x.mark(4, 1, 49);
        x.mark(3, 0, first);
        x.mark(3, 1, second);
        return x;
    }

    private void dueOrder(String house, PeerMarks x, int... row) {
        for (int i = 0; i < row.length; i++) {
            doc.due(house + ": order(" + i + ")", x.order(i), row[i]);
        }
    }

    private void theOrder() {
        doc.terms("THE ORDER: that with the least QUARREL");
        PeerMarks x = Houses.of(4);
        x.mark(0, 1, 0);
        x.mark(0, 2, 1);
        dueOrder("a lesser number stands behind", x, 0, 2, 1, 3);
        x.mark(3, 1, 1);
        x.mark(3, 2, 0);
        x.mark(3, 0, 0);
        dueOrder("1 ahead of 0 for nothing, and of 2 for as much", x, 1, 0, 2, 3);
        // 0 ahead of 1, 1 of 2 and 2 of 0 twice each and once the other way
        PeerMarks ring = Houses.of(6);
        int[][] given = {{30, 20, 10}, {10, 30, 20}, {20, 10, 30}};
        for (int p = 0; p < 3; p++) {
            for (int w = 0; w < 3; w++) {
                ring.mark(p + 3, w, given[p][w]);
            }
        }
        doc.due("a ring", ring.quarrel(), 4);

        doc.terms("of several that whose first WORK that differs has the lesser number.");
        dueOrder("a ring", ring, 0, 1, 2, 3, 4, 5);
        dueOrder("no marks", Houses.of(8), 0, 1, 2, 3, 4, 5, 6, 7);
        PeerMarks free = Houses.of(5);
        free.mark(4, 0, 0);
        free.mark(4, 3, 1);
        dueOrder("3 ahead of 0, but not of 1 and 2", free, 1, 2, 3, 0, 4);
    }

    private void pieces() {
        doc.terms("PIECES: WORKS and markers hang together by MARKS (a WORK and a PUPIL that marked it, and so on");
        PeerMarks x = Houses.of(6);
        x.mark(5, 0, 10);
        x.mark(5, 1, 10);
        x.mark(4, 1, 10);
        x.mark(4, 2, 10);
        x.mark(3, 2, 10);
        for (int w = 0; w < 3; w++) {
            doc.due("a chain: piece(" + w + ", 0)", x.piece(w, 0), 0);
            doc.due("a chain: piece(" + (5 - w) + ", 1)", x.piece(5 - w, 1), 0);
        }
        x.mark(4, 1, NONE);
        doc.due("the chain is cut", x.count(3), 2);
        doc.due("its end", x.piece(2, 0), 1);

        doc.terms("as a marker a PUPIL is another thing than its WORK)");
        PeerMarks two = new PeerMarks();
        two.mark(0, 1, 10);
        two.mark(1, 0, 10);
        doc.due("two pieces", two.count(3), 2);
        doc.due("work 0", two.piece(0, 0), 0);
        doc.due("marker 0", two.piece(0, 1), 1);

        doc.terms("Of a PIECE (one with a MARK)");
        doc.due("no mark", Houses.of(8).count(3), 0);
        PeerMarks staff = Houses.of(3);
        staff.staff(1, 5);
        doc.due("a STAFF mark is none", staff.count(3), 0);
        staff.mark(0, 2, 0);
        doc.due("a mark of 0 is one", staff.count(3), 1);
    }

    private void worthsAndLeans() {
        doc.terms("WORTHS t of its WORKS and LEANS b of its markers: with MARK v of PUPIL p for WORK w, the sum of the "
                + "squares of v less t w less b p over all its MARKS is least");
        // where the sum is least, what is left of a work's marks is 0 in all, and of a marker's marks
        PeerMarks x = tenThings();
        for (int w = 3; w < 8; w++) {
            Fraction sum = Fraction.ZERO;
            for (int p = 0; p < 5; p++) {
                sum = sum.plus(p == w ? Fraction.ZERO : over(x.left(p, w, 0), x.left(p, w, 1)));
            }
            doc.isTrue("what is left of work " + w, sum.isZero());
        }
        for (int p = 0; p < 5; p++) {
            Fraction sum = Fraction.ZERO;
            for (int w = 3; w < 8; w++) {
                sum = sum.plus(p == w ? Fraction.ZERO : over(x.left(p, w, 0), x.left(p, w, 1)));
            }
            doc.isTrue("what is left of pupil " + p, sum.isZero());
        }

        doc.terms("LEANS of its markers are 0 in all.");
        Fraction sum = Fraction.ZERO;
        for (int p = 0; p < 5; p++) {
            sum = sum.plus(over(x.lean(p, 0), x.lean(p, 1)));
        }
        doc.isTrue("ten things", sum.isZero());
        PeerMarks one = new PeerMarks();
        one.mark(0, 1, 100);
        doc.due("one marker", one.lean(0, 0), 0);
        one.mark(1, 0, 0);
        one.staff(0, 50);
        doc.due("a STAFF mark in another piece", one.lean(0, 0), 0);
        doc.due("a STAFF mark in its own", one.lean(1, 0), -50);

        doc.terms("There is just one such row of fractions.");
        Model model = new Model();
        model.pupils(8);
        for (int p = 0; p < 5; p++) {
            for (int w = 3; w < 8; w++) {
                model.mark(p, w, tenThingsMark(p, w));
            }
        }
        for (int k = 0; k < 8; k++) {
            for (int what = 0; what < 2; what++) {
                doc.due("worth(" + k + ", " + what + ")", x.worth(k, what), model.worth(k, what));
                doc.due("lean(" + k + ", " + what + ")", x.lean(k, what), model.lean(k, what));
            }
        }
    }

    private static Fraction over(long top, long lower) {
        return Fraction.of(top).over(Fraction.of(lower));
    }

    private static int tenThingsMark(int p, int w) {
        return (p * w + p) % 3 == 0 ? 0 : 100 - (p + w) % 2;
    }

    /** Five pupils who marked five works: as many marks as a piece that is not large can have. */
    private static PeerMarks tenThings() {
        PeerMarks x = Houses.of(8);
        for (int p = 0; p < 5; p++) {
            for (int w = 3; w < 8; w++) {
                x.mark(p, w, tenThingsMark(p, w));
            }
        }
        return x;
    }

    private void dueFraction(String call, PeerMarks x, long top, long lower, int w) {
        doc.dueFraction(call, x.worth(w, 0), x.worth(w, 1), top, lower);
    }

    private void heldToStaff() {
        doc.terms("t w is just the STAFF mark, if there is one");
        for (int v : new int[] {0, 100}) {
            PeerMarks x = tenThings();
            x.staff(4, v);
            dueFraction("one with a STAFF mark", x, v, 1, 4);
            for (int w = 3; w < 8; w++) {
                x.staff(w, v);
            }
            for (int w = 3; w < 8; w++) {
                dueFraction("all with STAFF marks", x, v, 1, w);
            }
        }

        doc.terms("and, if it has none with a STAFF mark, ");
        PeerMarks x = Houses.of(4);
        x.mark(0, 1, 40);
        x.mark(0, 2, 60);
        doc.due("none: lean(0, 0)", x.lean(0, 0), 0);
        x.staff(1, 0);
        doc.due("a STAFF mark of 0: lean(0, 0)", x.lean(0, 0), 40);
        dueFraction("a STAFF mark of 0", x, 20, 1, 2);
        x.staff(1, NONE);
        doc.due("none again: lean(0, 0)", x.lean(0, 0), 0);
        x.staff(3, 0);
        doc.due("a STAFF mark of a work that is not in it", x.lean(0, 0), 0);

        doc.terms("(A WORK without MARKS has the WORTH of its STAFF mark, if it has one.)");
        dueFraction("0", x, 0, 1, 3);
        x.staff(3, 100);
        dueFraction("100", x, 100, 1, 3);
        doc.due("it is in no piece", x.piece(3, 0), NONE);
        x.staff(3, NONE);
        doc.due("it has none", x.worth(3, 0), NOT);
    }

    private void largePieces() {
        doc.terms("A PIECE is LARGE, if it has more than 10 WORKS and markers together: then nothing is told of its WORTHS and LEANS.");
        PeerMarks x = tenThings();
        doc.due("five and five: count(4)", x.count(4), 0);
        doc.isTrue("told as yet: worth(6, 1)", x.worth(6, 1) > 0);
        doc.isTrue("told as yet: lean(4, 1)", x.lean(4, 1) > 0);
        doc.isTrue("told as yet: left(4, 6, 1)", x.left(4, 6, 1) > 0);
        x.mark(5, 6, 0);
        doc.due("one more marker: count(4)", x.count(4), 1);
        doc.due("worth(6, 0)", x.worth(6, 0), NOT);
        doc.due("worth(6, 1)", x.worth(6, 1), NOT);
        doc.due("lean(4, 0)", x.lean(4, 0), NOT);
        doc.due("lean(4, 1)", x.lean(4, 1), NOT);
        doc.due("left(4, 6, 1)", x.left(4, 6, 1), NOT);
        doc.due("lean(5, 0)", x.lean(5, 0), NOT);
        doc.due("left(5, 6, 0)", x.left(5, 6, 0), NOT);
        doc.due("it is a piece all the same", x.piece(6, 0), 0);
        x.staff(6, 50);
        doc.due("with a STAFF mark: worth(6, 0)", x.worth(6, 0), NOT);
        x.mark(5, 6, NONE);
        dueFraction("told again", x, 50, 1, 6);
        x.mark(4, 2, 0);
        doc.due("one more work: count(4)", x.count(4), 1);
        doc.due("worth(2, 1)", x.worth(2, 1), NOT);
        PeerMarks all = Houses.of(8);
        Houses.markAll(all, 8);
        doc.due("sixteen: count(4)", all.count(4), 1);
        doc.due("sixteen: lean(7, 1)", all.lean(7, 1), NOT);
        PeerMarks nine = Houses.of(8);
        for (int p = 1; p < 8; p++) {
            nine.mark(p, 0, 10 * p);
            nine.mark(p, 1, 10);
            nine.mark(p, 2, 10);
        }
        doc.due("three works and seven markers: count(4)", nine.count(4), 0);
        nine.mark(0, 1, 10);
        doc.due("three works and eight markers: count(4)", nine.count(4), 1);
    }

    private void spreads() {
        doc.terms("SPREAD of a WORK: its greatest MARK less its least one (0 with fewer than two).");
        PeerMarks x = Houses.of(4);
        doc.due("none", x.spread(0), 0);
        x.mark(1, 0, 100);
        doc.due("one", x.spread(0), 0);
        x.staff(0, 0);
        doc.due("one and a STAFF mark", x.spread(0), 0);
        x.mark(2, 0, 0);
        doc.due("two", x.spread(0), 100);
        x.mark(3, 0, 50);
        doc.due("three", x.spread(0), 100);
        x.mark(2, 0, NONE);
        doc.due("two are left", x.spread(0), 50);

        doc.terms("It is APPEALED, if its SPREAD is above WIDE (0 .. 100; 30 at first).");
        doc.due("30 at first", new PeerMarks().rule(2, 0), 30);
        doc.due("rule(2, -1)", new PeerMarks().rule(2, -1), OUTSIDE);
        doc.due("rule(2, 100)", new PeerMarks().rule(2, 100), 30);
        doc.due("rule(2, 101)", new PeerMarks().rule(2, 101), OUTSIDE);
        PeerMarks y = Houses.of(3);
        y.mark(1, 0, 50);
        y.mark(2, 0, 80);
        doc.due("at it", y.count(5), 0);
        y.mark(2, 0, 81);
        doc.due("above it", y.count(5), 1);
        y.rule(2, 31);
        doc.due("at it again", y.count(5), 0);
        y.rule(2, 0);
        doc.due("above 0", y.count(5), 1);
        y.mark(2, 0, 50);
        doc.due("0 is not above 0", y.count(5), 0);
    }

    private void nextMarkers() {
        doc.terms("ITS NEXT marker: of PUPILS that MAY mark it and have not that with the fewest MARKS (for any WORKS)");
        PeerMarks x = Houses.of(5);
        x.mark(1, 2, 5);
        x.mark(2, 3, 5);
        doc.due("3 has none", x.next(0), 3);
        x.friends(3, 0, true);
        doc.due("3 may not", x.next(0), 4);
        x.mark(4, 0, 5);
        doc.due("4 has; 1 and 2 have one mark each", x.next(0), 1);
        x.mark(1, 3, 5);
        doc.due("1 has two", x.next(0), 2);
        x.staff(2, 5);
        x.rule(1, 1);
        doc.due("STAFF marks and LOAD are no matter", x.next(0), 2);
        doc.due("it need not be APPEALED", x.count(5), 0);

        doc.terms("of these the least");
        doc.due("none has a mark", Houses.of(8).next(0), 1);
        x.mark(2, 1, 5);
        doc.due("1 and 2 have two each", x.next(0), 1);

        doc.terms("NONE: there is none.");
        x.mark(1, 0, 0);
        x.mark(2, 0, 100);
        doc.due("all who may have", x.next(0), NONE);
        x.mark(3, 0, 5);
        x.friends(3, 0, false);
        doc.due("3 has, whether it might or not", x.next(0), NONE);
        PeerMarks friends = Houses.of(8);
        Houses.befriendAll(friends, 8);
        doc.due("nobody may", friends.next(7), NONE);
    }
}
