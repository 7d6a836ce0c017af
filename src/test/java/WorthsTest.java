/** Promises 13 to 16: piece, worth, lean, left. */
final class WorthsTest {
    private static final Check CHECK = new Check("WorthsTest");
    private static final int[] WRONG = {Integer.MIN_VALUE, -1, 4, 8, 32, Integer.MAX_VALUE};
    private static final int[] NO_KIND = {Integer.MIN_VALUE, -1, 2, Integer.MAX_VALUE};

    private static PeerMarks house(int n) {
        PeerMarks x = new PeerMarks();
        x.pupils(n);
        return x;
    }

    /** 0 and 1 both marked 2 and 3, not alike. */
    private static PeerMarks square() {
        PeerMarks x = house(4);
        x.mark(0, 2, 10);
        x.mark(0, 3, 20);
        x.mark(1, 2, 30);
        x.mark(1, 3, 50);
        return x;
    }

    private static void dueWorth(PeerMarks x, int w, long top, long lower) {
        CHECK.dueFraction("worth(" + w + ")", x.worth(w, 0), x.worth(w, 1), top, lower);
    }

    private static void dueLean(PeerMarks x, int p, long top, long lower) {
        CHECK.dueFraction("lean(" + p + ")", x.lean(p, 0), x.lean(p, 1), top, lower);
    }

    private static void dueLeft(PeerMarks x, int p, int w, long top, long lower) {
        CHECK.dueFraction("left(" + p + ", " + w + ")", x.left(p, w, 0), x.left(p, w, 1), top, lower);
    }

    private static void pieces() {
        PeerMarks x = house(6);
        CHECK.due("no marks: piece(0, 0)", x.piece(0, 0), PeerMarks.NONE);
        CHECK.due("no marks: piece(0, 1)", x.piece(0, 1), PeerMarks.NONE);
        x.mark(0, 5, 10);
        x.mark(5, 3, 10);
        x.mark(4, 1, 10);
        int[] ofWork = {-1, 0, -1, 1, -1, 2};
        int[] ofMarker = {2, -1, -1, -1, 0, 1};
        for (int k = 0; k < 6; k++) {
            CHECK.due("piece(" + k + ", 0)", x.piece(k, 0), ofWork[k]);
            CHECK.due("piece(" + k + ", 1)", x.piece(k, 1), ofMarker[k]);
        }
        x.mark(5, 0, 10);
        CHECK.due("work 0 leads now", x.piece(3, 0), 0);
        CHECK.due("work 1 is behind now", x.piece(1, 0), 1);
        x.mark(4, 5, 10);
        CHECK.due("markers 0 and 4 meet", x.piece(0, 1), 1);
        CHECK.due("two pieces", x.count(3), 2);
        x.staff(2, 10);
        CHECK.due("a staff mark makes no piece", x.piece(2, 0), PeerMarks.NONE);
    }

    private static void justFitting() {
        PeerMarks x = house(3);
        x.mark(0, 1, 10);
        x.mark(0, 2, 20);
        x.mark(1, 2, 40);
        dueLean(x, 0, -10, 1);
        dueLean(x, 1, 10, 1);
        dueWorth(x, 1, 20, 1);
        dueWorth(x, 2, 30, 1);
        dueLeft(x, 0, 1, 0, 1);
        dueLeft(x, 1, 2, 0, 1);
        CHECK.due("work 0 has none", x.worth(0, 0), PeerMarks.NOT);
        CHECK.due("pupil 2 is no marker", x.lean(2, 0), PeerMarks.NOT);
    }

    private static void leastSquares() {
        PeerMarks x = square();
        dueWorth(x, 2, 20, 1);
        dueWorth(x, 3, 35, 1);
        dueLean(x, 0, -25, 2);
        dueLean(x, 1, 25, 2);
        dueLeft(x, 0, 2, 5, 2);
        dueLeft(x, 0, 3, -5, 2);
        dueLeft(x, 1, 2, -5, 2);
        dueLeft(x, 1, 3, 5, 2);
    }

    private static void heldToStaff() {
        PeerMarks x = square();
        x.staff(2, 10);
        dueWorth(x, 2, 10, 1);
        dueWorth(x, 3, 25, 1);
        dueLean(x, 0, -5, 2);
        dueLean(x, 1, 45, 2);
        dueLeft(x, 0, 2, 5, 2);
        dueLeft(x, 1, 3, 5, 2);
        x.staff(3, 30);
        dueLean(x, 0, -5, 1);
        dueLean(x, 1, 20, 1);
        dueLeft(x, 0, 2, 5, 1);
        dueLeft(x, 0, 3, -5, 1);
        dueLeft(x, 1, 2, 0, 1);
        x.staff(2, PeerMarks.NONE);
        x.staff(3, PeerMarks.NONE);
        dueLean(x, 0, -25, 2);
    }

    private static void eachPieceByItself() {
        PeerMarks x = square();
        x.mark(2, 0, 60);
        x.mark(3, 0, 90);
        x.staff(0, 50);
        dueLean(x, 2, 10, 1);
        dueLean(x, 3, 40, 1);
        dueWorth(x, 0, 50, 1);
        dueLean(x, 1, 25, 2);
        CHECK.due("left(2, 1, 0)", x.left(2, 1, 0), PeerMarks.NOT);
    }

    private static void staffAlone() {
        PeerMarks x = house(2);
        CHECK.due("nothing at all", x.worth(1, 1), PeerMarks.NOT);
        x.staff(1, 0);
        dueWorth(x, 1, 0, 1);
        x.staff(1, 77);
        dueWorth(x, 1, 77, 1);
        x.staff(1, PeerMarks.NONE);
        CHECK.due("nothing again", x.worth(1, 0), PeerMarks.NOT);
    }

    /** Along a chain from work 0 worths run out of 0 .. 100. */
    private static void longChain() {
        PeerMarks x = house(6);
        x.staff(0, 0);
        x.mark(1, 0, 100);
        x.mark(1, 2, 0);
        x.mark(3, 2, 100);
        x.mark(3, 4, 0);
        x.mark(5, 4, 100);
        dueLean(x, 1, 100, 1);
        dueWorth(x, 2, -100, 1);
        dueLean(x, 3, 200, 1);
        dueWorth(x, 4, -200, 1);
        dueLean(x, 5, 300, 1);
    }

    private static void largePieces() {
        PeerMarks x = house(8);
        for (int w = 0; w < 7; w++) {
            x.mark(7, w, 50);
        }
        x.mark(0, 1, 60);
        x.mark(1, 0, 60);
        x.mark(3, 7, 20);
        // ten things: seven works, markers 7, 0 and 1
        dueLean(x, 7, -20, 3);
        dueLean(x, 0, 10, 3);
        x.mark(2, 0, 60);
        CHECK.due("eleven: worth(0, 0)", x.worth(0, 0), PeerMarks.NOT);
        CHECK.due("eleven: worth(0, 1)", x.worth(0, 1), PeerMarks.NOT);
        CHECK.due("eleven: lean(2, 0)", x.lean(2, 0), PeerMarks.NOT);
        CHECK.due("eleven: left(2, 0, 1)", x.left(2, 0, 1), PeerMarks.NOT);
        CHECK.due("eleven: count(4)", x.count(4), 1);
        CHECK.due("eleven: piece(0, 0)", x.piece(0, 0), 0);
        x.staff(0, 50);
        CHECK.due("eleven, staff: worth(0, 0)", x.worth(0, 0), PeerMarks.NOT);
        dueWorth(x, 7, 20, 1);
        dueLean(x, 3, 0, 1);
        x.mark(2, 0, PeerMarks.NONE);
        dueWorth(x, 0, 50, 1);
        dueLean(x, 1, 10, 1);
    }

    private static void wrongInputs() {
        PeerMarks x = square();
        for (int k : WRONG) {
            for (int what : new int[] {0, 1, 2}) {
                CHECK.due("piece(" + k + ", " + what + ")", x.piece(k, what), PeerMarks.UNKNOWN);
                CHECK.due("worth(" + k + ", " + what + ")", x.worth(k, what), PeerMarks.UNKNOWN);
                CHECK.due("lean(" + k + ", " + what + ")", x.lean(k, what), PeerMarks.UNKNOWN);
                CHECK.due("left(" + k + ", 2, " + what + ")", x.left(k, 2, what), PeerMarks.UNKNOWN);
                CHECK.due("left(0, " + k + ", " + what + ")", x.left(0, k, what), PeerMarks.UNKNOWN);
            }
        }
        for (int what : NO_KIND) {
            for (int k = 0; k < 4; k++) {
                CHECK.due("piece(" + k + ", " + what + ")", x.piece(k, what), PeerMarks.OUTSIDE);
                CHECK.due("worth(" + k + ", " + what + ")", x.worth(k, what), PeerMarks.OUTSIDE);
                CHECK.due("lean(" + k + ", " + what + ")", x.lean(k, what), PeerMarks.OUTSIDE);
                CHECK.due("left(0, " + k + ", " + what + ")", x.left(0, k, what), PeerMarks.OUTSIDE);
            }
        }
        CHECK.due("left(0, 0, 0)", x.left(0, 0, 0), PeerMarks.NOT);
        CHECK.due("left(0, 1, 0)", x.left(0, 1, 0), PeerMarks.NOT);
        CHECK.due("left(2, 3, 1)", x.left(2, 3, 1), PeerMarks.NOT);
    }

    public static void main(String[] args) {
        pieces();
        justFitting();
        leastSquares();
        heldToStaff();
        eachPieceByItself();
        staffAlone();
        longChain();
        largePieces();
        wrongInputs();
        CHECK.end();
    }
}
