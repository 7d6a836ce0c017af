/** Promises 17 to 20: order, quarrel, turned, moves. */
final class OrdersTest {
    private static final Check CHECK = new Check("OrdersTest");
    private static final int[] WRONG = {Integer.MIN_VALUE, -1, 8, 9, 32, Integer.MAX_VALUE};

    private static PeerMarks house(int n) {
        PeerMarks x = new PeerMarks();
        x.pupils(n);
        return x;
    }

    private static void dueOrder(String house, PeerMarks x, int quarrel, int... row) {
        for (int i = 0; i < row.length; i++) {
            CHECK.due(house + ": order(" + i + ")", x.order(i), row[i]);
        }
        CHECK.due(house + ": quarrel()", x.quarrel(), quarrel);
    }

    private static void dueTurned(String house, PeerMarks x, int... turned) {
        for (int p = 0; p < turned.length; p++) {
            CHECK.due(house + ": turned(" + p + ")", x.turned(p), turned[p]);
        }
    }

    private static void dueMoves(String house, PeerMarks x, int... moves) {
        for (int p = 0; p < moves.length; p++) {
            CHECK.due(house + ": moves(" + p + ")", x.moves(p), moves[p]);
        }
    }

    private static void noMarks() {
        PeerMarks x = house(8);
        dueOrder("no marks", x, 0, 0, 1, 2, 3, 4, 5, 6, 7);
        dueTurned("no marks", x, 0, 0, 0, 0, 0, 0, 0, 0);
        dueMoves("no marks", x, 0, 0, 0, 0, 0, 0, 0, 0);
    }

    private static void oneMarker() {
        PeerMarks x = house(4);
        x.mark(0, 1, 10);
        dueOrder("one mark", x, 0, 0, 1, 2, 3);
        x.mark(0, 2, 10);
        dueOrder("alike marks turn nothing", x, 0, 0, 1, 2, 3);
        x.mark(0, 2, 11);
        dueOrder("better ahead", x, 0, 0, 2, 1, 3);
        x.mark(0, 3, 100);
        dueOrder("best ahead", x, 0, 0, 3, 2, 1);
        dueMoves("best ahead", x, 2, 0, 0, 0);
        x.mark(0, 3, PeerMarks.NONE);
        dueOrder("no mark is not a low one", x, 0, 0, 2, 1, 3);
        x.mark(0, 1, 0);
        dueOrder("a mark of 0 is a mark", x, 0, 0, 2, 1, 3);
        x.staff(1, 100);
        dueOrder("staff marks are no matter", x, 0, 0, 2, 1, 3);
    }

    private static void twoWhoQuarrel() {
        PeerMarks x = house(4);
        x.mark(0, 1, 10);
        x.mark(0, 2, 20);
        x.mark(3, 1, 90);
        x.mark(3, 2, 80);
        dueOrder("one against one", x, 1, 0, 1, 2, 3);
        dueTurned("one against one", x, 1, 0, 0, 0);
        dueMoves("one against one", x, 0, 0, 0, 1);
    }

    private static void ring() {
        PeerMarks x = house(6);
        int[][] given = {{30, 20, 10}, {10, 30, 20}, {20, 10, 30}};
        for (int p = 0; p < 3; p++) {
            for (int w = 0; w < 3; w++) {
                x.mark(p + 3, w, given[p][w]);
            }
        }
        dueOrder("a ring", x, 4, 0, 1, 2, 3, 4, 5);
        dueTurned("a ring", x, 0, 0, 0, 0, 2, 2);
        dueMoves("a ring", x, 0, 0, 0, 2, 0, 0);
        x.mark(4, 0, PeerMarks.NONE);
        x.mark(4, 1, PeerMarks.NONE);
        x.mark(4, 2, PeerMarks.NONE);
        dueOrder("a ring that was opened", x, 2, 0, 1, 2, 3, 4, 5);
        dueTurned("a ring that was opened", x, 0, 0, 0, 0, 0, 2);
        // without pupil 3 there is 5 alone: 2, 0, 1
        dueMoves("a ring that was opened", x, 0, 0, 0, 2, 0, 0);
    }

    private static void farMove() {
        PeerMarks x = house(8);
        for (int w = 1; w < 8; w++) {
            x.mark(0, w, 10 * w);
        }
        dueOrder("all the other way", x, 0, 0, 7, 6, 5, 4, 3, 2, 1);
        dueMoves("all the other way", x, 6, 0);
        x.pupils(8);
        dueOrder("after pupils", x, 0, 0, 1, 2, 3, 4, 5, 6, 7);
        dueMoves("after pupils", x, 0);
    }

    private static void wrongInputs() {
        PeerMarks x = house(8);
        for (int k : WRONG) {
            CHECK.due("order(" + k + ")", x.order(k), PeerMarks.OUTSIDE);
            CHECK.due("turned(" + k + ")", x.turned(k), PeerMarks.UNKNOWN);
            CHECK.due("moves(" + k + ")", x.moves(k), PeerMarks.UNKNOWN);
        }
        PeerMarks two = new PeerMarks();
        CHECK.due("two: order(2)", two.order(2), PeerMarks.OUTSIDE);
        CHECK.due("two: turned(2)", two.turned(2), PeerMarks.UNKNOWN);
        CHECK.due("two: moves(2)", two.moves(2), PeerMarks.UNKNOWN);
    }

    public static void main(String[] args) {
        noMarks();
        oneMarker();
        twoWhoQuarrel();
        ring();
        farMove();
        wrongInputs();
        CHECK.end();
    }
}
