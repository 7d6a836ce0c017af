/** Promises 21 to 23: spread, next, digest. */
final class AppealsTest {
    private static final Check CHECK = new Check("AppealsTest");
    private static final int[] WRONG = {Integer.MIN_VALUE, -1, 5, 8, 32, Integer.MAX_VALUE};

    private static PeerMarks house(int n) {
        PeerMarks x = new PeerMarks();
        x.pupils(n);
        return x;
    }

    private static void spread() {
        PeerMarks x = house(5);
        CHECK.due("no marks", x.spread(0), 0);
        x.mark(1, 0, 60);
        CHECK.due("one mark", x.spread(0), 0);
        x.staff(0, 0);
        CHECK.due("a staff mark is no matter", x.spread(0), 0);
        x.mark(2, 0, 90);
        CHECK.due("two marks", x.spread(0), 30);
        CHECK.due("as wide as WIDE is not appealed", x.count(5), 0);
        x.mark(3, 0, 59);
        CHECK.due("three marks", x.spread(0), 31);
        CHECK.due("appealed", x.count(5), 1);
        x.mark(4, 0, 70);
        CHECK.due("one between", x.spread(0), 31);
        x.mark(3, 0, 0);
        x.mark(4, 0, 100);
        CHECK.due("the widest", x.spread(0), 100);
        x.rule(2, 100);
        CHECK.due("nothing is wider than 100", x.count(5), 0);
        CHECK.due("another work", x.spread(1), 0);
    }

    private static void next() {
        PeerMarks x = house(5);
        CHECK.due("the least of all", x.next(0), 1);
        CHECK.due("never itself", x.next(1), 0);
        x.mark(1, 2, 50);
        CHECK.due("the fewest marks", x.next(0), 2);
        x.friends(2, 0, true);
        CHECK.due("no friend", x.next(0), 3);
        x.mark(3, 0, 50);
        CHECK.due("not one who did", x.next(0), 4);
        x.mark(4, 1, 50);
        x.mark(4, 2, 50);
        CHECK.due("1 has one, 4 has two", x.next(0), 1);
        x.mark(1, 3, 50);
        CHECK.due("both have two", x.next(0), 1);
        x.mark(1, 4, 50);
        CHECK.due("1 has three", x.next(0), 4);
        x.mark(4, 0, 50);
        CHECK.due("1 alone is left", x.next(0), 1);
        x.mark(1, 0, 50);
        CHECK.due("none is left", x.next(0), PeerMarks.NONE);
        x.mark(4, 0, PeerMarks.NONE);
        CHECK.due("4 is free again", x.next(0), 4);
    }

    private static void nextIsNoMatterOfLoad() {
        PeerMarks x = house(3);
        x.rule(1, 1);
        x.mark(1, 2, 5);
        x.mark(1, 0, 5);
        x.mark(2, 1, 5);
        x.mark(2, 0, 5);
        CHECK.due("LOAD is of plans alone", x.next(2), 0);
        x.friends(0, 2, true);
        CHECK.due("only 1, who marked it", x.next(2), PeerMarks.NONE);
    }

    private static int digestOf(int[] row) {
        int d = 7;
        for (int v : row) {
            d = 31 * d + v;
        }
        return d;
    }

    private static void digest() {
        PeerMarks x = new PeerMarks();
        CHECK.due("a new object", x.digest(), digestOf(new int[] {-1, -1, -1, -1, -1, -1}));
        x.mark(0, 1, 12);
        x.staff(0, 34);
        CHECK.due("a mark and a staff mark", x.digest(), digestOf(new int[] {-1, -1, 34, 12, -1, -1}));
        x.mark(1, 0, 56);
        CHECK.due("the works one after the other", x.digest(), digestOf(new int[] {-1, 56, 34, 12, -1, -1}));
        x.friends(0, 1, true);
        x.rule(0, 1);
        CHECK.due("friends and rules are no matter", x.digest(), digestOf(new int[] {-1, 56, 34, 12, -1, -1}));
        x.pupils(3);
        x.mark(2, 0, 100);
        x.staff(2, 0);
        CHECK.due("three", x.digest(), digestOf(new int[] {-1, -1, 100, -1, -1, -1, -1, -1, -1, -1, -1, 0}));
    }

    private static void wrongInputs() {
        PeerMarks x = house(5);
        for (int k : WRONG) {
            CHECK.due("spread(" + k + ")", x.spread(k), PeerMarks.UNKNOWN);
            CHECK.due("next(" + k + ")", x.next(k), PeerMarks.UNKNOWN);
        }
    }

    public static void main(String[] args) {
        spread();
        next();
        nextIsNoMatterOfLoad();
        digest();
        wrongInputs();
        CHECK.end();
    }
}
