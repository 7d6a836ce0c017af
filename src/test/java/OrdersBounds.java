import java.util.Arrays;

/** What promises 17 to 20 say of bounds: order, quarrel, turned, moves. */
final class OrdersBounds {
    private final Sentences doc;

    private OrdersBounds(Sentences doc) {
        this.doc = doc;
    }

    static void play(Sentences doc) {
        OrdersBounds bounds = new OrdersBounds(doc);
        bounds.order();
        bounds.quarrel();
        bounds.turned();
        bounds.moves();
    }

    /** Pupil 1 gives all works marks that rise with their numbers. */
    private static PeerMarks upsideDown() {
        PeerMarks x = Houses.of(8);
        for (int w = 0; w < 8; w++) {
            if (w != 1) {
                x.mark(1, w, w);
            }
        }
        return x;
    }

    /**
     * All mark all: 0 to 3 give works marks that rise with their numbers, 4 to 7 marks that fall. Two
     * works of 0 to 3 are turned twice at least, with the lesser ahead; two of 4 to 7 twice, with the
     * greater ahead; one of both three times, whichever is ahead.
     */
    static PeerMarks twoCamps() {
        PeerMarks x = Houses.of(8);
        for (int p = 0; p < 8; p++) {
            for (int w = 0; w < 8; w++) {
                if (p != w) {
                    x.mark(p, w, p < 4 ? 10 * w : 100 - 10 * w);
                }
            }
        }
        return x;
    }

    private void dueOrder(String house, PeerMarks x, int... row) {
        for (int i = 0; i < row.length; i++) {
            doc.due(house + ": order(" + i + ")", x.order(i), row[i]);
        }
    }

    private void order() {
        doc.promise(17, "The WORK at place i of THE ORDER.");
        dueOrder("two, no marks", new PeerMarks(), 0, 1);
        dueOrder("eight, no marks", Houses.of(8), 0, 1, 2, 3, 4, 5, 6, 7);
        dueOrder("upside down", upsideDown(), 1, 7, 6, 5, 4, 3, 2, 0);
        dueOrder("two camps", twoCamps(), 0, 1, 2, 3, 7, 6, 5, 4);
        PeerMarks two = new PeerMarks();
        two.mark(0, 1, 100);
        two.mark(1, 0, 0);
        dueOrder("two can't compare", two, 0, 1);

        doc.promise(17, "OUTSIDE: there is no such place.");
        for (int n = 2; n <= 8; n++) {
            PeerMarks x = Houses.of(n);
            doc.due("the last place of " + n, x.order(n - 1), n - 1);
            doc.due("behind the last place of " + n, x.order(n), PeerMarks.OUTSIDE);
        }
        for (int i : Houses.outside(0, 4)) {
            doc.refused(Houses::busy, "order(" + i + ")", x -> x.order(i), PeerMarks.OUTSIDE);
        }
    }

    private void quarrel() {
        doc.promise(18, "QUARREL of THE ORDER.");
        doc.due("a new object", new PeerMarks().quarrel(), 0);
        doc.due("one marker", upsideDown().quarrel(), 0);
        doc.due("two camps: 12 pairs twice, 16 three times", twoCamps().quarrel(), 72);
        PeerMarks alike = Houses.of(8);
        for (int p = 0; p < 8; p++) {
            for (int w = 0; w < 8; w++) {
                alike.mark(p, w, 50);
            }
        }
        doc.due("all marks alike", alike.quarrel(), 0);
        PeerMarks x = Houses.of(4);
        x.mark(2, 0, 0);
        x.mark(2, 1, 1);
        doc.due("one alone", x.quarrel(), 0);
        x.mark(3, 0, 1);
        x.mark(3, 1, 0);
        doc.due("one against one", x.quarrel(), 1);
        x.staff(0, 0);
        x.staff(1, 100);
        doc.due("STAFF has no voice", x.quarrel(), 1);
        x.mark(3, 0, -1);
        doc.due("one alone again", x.quarrel(), 0);
    }

    private void turned() {
        doc.promise(19, "How often two WORKS are turned by PUPIL p in THE ORDER.");
        doc.due("a new object", new PeerMarks().turned(1), 0);
        for (int p = 0; p < 8; p++) {
            doc.due("one marker: turned(" + p + ")", upsideDown().turned(p), 0);
            doc.due("two camps: turned(" + p + ")", twoCamps().turned(p), p < 4 ? 15 : 3);
        }
        PeerMarks x = outvoted();
        dueOrder("outvoted", x, 0, 1, 2, 3, 4, 5, 6, 7);
        doc.due("outvoted in all that it marked", x.turned(0), 21);
        doc.due("with the others", x.turned(1), 0);

        doc.promise(19, "UNKNOWN.");
        for (int k : Houses.outside(0, 4)) {
            doc.refused(Houses::busy, "turned(" + k + ")", y -> y.turned(k), PeerMarks.UNKNOWN);
        }
        for (int n = 2; n <= 8; n++) {
            doc.due("the last of " + n, Houses.of(n).turned(n - 1), 0);
            doc.due("behind the last of " + n, Houses.of(n).turned(n), PeerMarks.UNKNOWN);
        }
    }

    /** Marks of pupil 0 rise with the numbers of works, those of 1 to 7 fall. */
    private static PeerMarks outvoted() {
        PeerMarks x = Houses.of(8);
        for (int p = 0; p < 8; p++) {
            for (int w = 0; w < 8; w++) {
                x.mark(p, w, p == 0 ? w : 100 - w);
            }
        }
        return x;
    }

    private void moves() {
        doc.promise(20, "How many places the WORK that it moves most goes in THE ORDER");
        doc.due("work 0 from the last place to the first", upsideDown().moves(1), 7);
        doc.due("nothing moves", outvoted().moves(0), 0);
        PeerMarks first = Houses.of(5);
        for (int w = 0; w < 4; w++) {
            first.mark(4, w, w == 3 ? 1 : 0);
        }
        doc.due("work 3 from the first place to its own", first.moves(4), 3);
        PeerMarks x = Houses.of(4);
        x.mark(0, 2, 0);
        x.mark(0, 3, 1);
        doc.due("two change places", x.moves(0), 1);
        x.mark(0, 1, 0);
        doc.due("3 by two, 1 and 2 by one", x.moves(0), 2);

        doc.promise(20, "if all MARKS of PUPIL p were not there.");
        doc.due("a new object", new PeerMarks().moves(0), 0);
        for (int p = 0; p < 8; p++) {
            doc.due("one marker: moves(" + p + ")", upsideDown().moves(p), p == 1 ? 7 : 0);
        }
        PeerMarks camps = twoCamps();
        int[] before = rowOf(camps);
        for (int p = 0; p < 8; p++) {
            PeerMarks without = twoCamps();
            for (int w = 0; w < 8; w++) {
                without.mark(p, w, -1);
            }
            doc.due("two camps: moves(" + p + ")", camps.moves(p), farthest(before, rowOf(without)));
        }
        doc.isTrue("the marks are there all the same", Arrays.equals(before, rowOf(camps)));
        doc.due("count(1)", camps.count(1), 56);

        doc.promise(20, "UNKNOWN.");
        for (int k : Houses.outside(0, 4)) {
            doc.refused(Houses::busy, "moves(" + k + ")", y -> y.moves(k), PeerMarks.UNKNOWN);
        }
        for (int n = 2; n <= 8; n++) {
            doc.due("the last of " + n, Houses.of(n).moves(n - 1), 0);
            doc.due("behind the last of " + n, Houses.of(n).moves(n), PeerMarks.UNKNOWN);
        }
    }

    private static int[] rowOf(PeerMarks x) {
        int[] row = new int[8];
        for (int i = 0; i < 8; i++) {
            row[i] = x.order(i);
        }
        return row;
    }

    private static int farthest(int[] with, int[] without) {
        int most = 0;
        for (int i = 0; i < 8; i++) {
            for (int j = 0; j < 8; j++) {
                if (with[i] == without[j]) {
                    most = Math.max(most, Math.abs(i - j));
                }
            }
        }
        return most;
    }
}
