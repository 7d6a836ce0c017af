/** Promises 10 to 12: mark, staff, count. */
final class MarksTest {
    private static final Check CHECK = new Check("MarksTest");
    private static final int[] WRONG = {Integer.MIN_VALUE, -1, 3, 8, 32, Integer.MAX_VALUE};
    private static final int[] NO_MARK = {Integer.MIN_VALUE, -1002, -2, 101, Integer.MAX_VALUE};

    private static PeerMarks house(int n) {
        PeerMarks x = new PeerMarks();
        x.pupils(n);
        return x;
    }

    private static void mark() {
        PeerMarks x = house(3);
        CHECK.due("mark(0, 1, 0)", x.mark(0, 1, 0), PeerMarks.NONE);
        CHECK.due("a mark of 0 is one", x.count(1), 1);
        CHECK.due("mark(0, 1, 100)", x.mark(0, 1, 100), 0);
        CHECK.due("still one", x.count(1), 1);
        CHECK.due("mark(1, 0, 7)", x.mark(1, 0, 7), PeerMarks.NONE);
        CHECK.due("two", x.count(1), 2);
        CHECK.due("mark(0, 1, -1)", x.mark(0, 1, -1), 100);
        CHECK.due("mark(0, 1, -1) again", x.mark(0, 1, -1), PeerMarks.NONE);
        CHECK.due("one left", x.count(1), 1);
        x.friends(1, 2, true);
        CHECK.due("a friend's work can be marked", x.mark(1, 2, 5), PeerMarks.NONE);
        CHECK.due("mark(1, 2, 6)", x.mark(1, 2, 6), 5);
    }

    private static PeerMarks marked() {
        PeerMarks x = house(3);
        x.mark(0, 1, 40);
        x.mark(2, 1, 80);
        x.staff(1, 9);
        return x;
    }

    private static void wrongMarks() {
        PeerMarks x = marked();
        for (int k : WRONG) {
            CHECK.due("mark(" + k + ", 0, 5)", x.mark(k, 0, 5), PeerMarks.UNKNOWN);
            CHECK.due("mark(0, " + k + ", 5)", x.mark(0, k, 5), PeerMarks.UNKNOWN);
            CHECK.due("mark(" + k + ", " + k + ", 500)", x.mark(k, k, 500), PeerMarks.UNKNOWN);
            CHECK.due("staff(" + k + ", 5)", x.staff(k, 5), PeerMarks.UNKNOWN);
            CHECK.due("staff(" + k + ", 500)", x.staff(k, 500), PeerMarks.UNKNOWN);
        }
        for (int v : NO_MARK) {
            CHECK.due("mark(0, 1, " + v + ")", x.mark(0, 1, v), PeerMarks.OUTSIDE);
            CHECK.due("mark(1, 1, " + v + ")", x.mark(1, 1, v), PeerMarks.OUTSIDE);
            CHECK.due("staff(1, " + v + ")", x.staff(1, v), PeerMarks.OUTSIDE);
        }
        CHECK.due("mark(2, 2, 5)", x.mark(2, 2, 5), PeerMarks.NOT);
        CHECK.due("mark(2, 2, -1)", x.mark(2, 2, -1), PeerMarks.NOT);
        CHECK.isTrue("refused marks change nothing", Look.at(marked()).equals(Look.at(x)));
    }

    private static void staff() {
        PeerMarks x = house(3);
        CHECK.due("staff(2, 0)", x.staff(2, 0), PeerMarks.NONE);
        CHECK.due("staff(2, 100)", x.staff(2, 100), 0);
        CHECK.due("staff(0, 30)", x.staff(0, 30), PeerMarks.NONE);
        CHECK.due("two staff marks", x.count(2), 2);
        CHECK.due("no mark of a pupil", x.count(1), 0);
        CHECK.due("staff(2, -1)", x.staff(2, -1), 100);
        CHECK.due("staff(2, -1) again", x.staff(2, -1), PeerMarks.NONE);
        CHECK.due("one staff mark", x.count(2), 1);
    }

    private static void count() {
        PeerMarks x = house(8);
        CHECK.due("pupils", x.count(0), 8);
        for (int w = 1; w < 8; w++) {
            x.mark(0, w, 10 * w);
        }
        CHECK.due("marks", x.count(1), 7);
        CHECK.due("one piece", x.count(3), 1);
        CHECK.due("8 things are not large", x.count(4), 0);
        x.mark(7, 0, 3);
        CHECK.due("two pieces", x.count(3), 2);
        x.mark(1, 2, 90);
        x.mark(2, 1, 41);
        CHECK.due("10 things are not large", x.count(4), 0);
        CHECK.due("appealed: 20 and 90, 10 and 41", x.count(5), 2);
        x.rule(2, 31);
        CHECK.due("appealed: above WIDE, not at it", x.count(5), 1);
        x.mark(3, 1, 20);
        CHECK.due("11 things are large", x.count(4), 1);
        CHECK.due("still two pieces", x.count(3), 2);
        x.friends(4, 5, true);
        x.friends(5, 6, true);
        x.friends(6, 4, true);
        CHECK.due("pairs of friends", x.count(6), 3);
        x.staff(0, 0);
        CHECK.due("staff marks", x.count(2), 1);
        CHECK.due("staff marks are not of pieces", x.count(3), 2);
        for (int what : new int[] {Integer.MIN_VALUE, -1, 7, 8, Integer.MAX_VALUE}) {
            CHECK.due("count(" + what + ")", x.count(what), PeerMarks.OUTSIDE);
        }
    }

    public static void main(String[] args) {
        mark();
        wrongMarks();
        staff();
        count();
        CHECK.end();
    }
}
