import java.util.TreeSet;

/** Houses that several tests begin with, and the numbers around a bound. */
final class Houses {
    private Houses() {
    }

    static PeerMarks of(int n) {
        PeerMarks x = new PeerMarks();
        x.pupils(n);
        return x;
    }

    static PeerMarks of(int n, int each, int load) {
        PeerMarks x = of(n);
        x.rule(0, each);
        x.rule(1, load);
        return x;
    }

    /** Five pupils with something of all that there is, and a plan; asked once, so what is kept is kept. */
    static PeerMarks busy() {
        PeerMarks x = of(5, 2, 3);
        x.rule(2, 20);
        x.friends(1, 3, true);
        x.mark(0, 1, 40);
        x.mark(0, 2, 70);
        x.mark(1, 2, 55);
        x.mark(2, 1, 90);
        x.mark(1, 3, 5);
        x.mark(3, 0, 20);
        x.mark(4, 0, 65);
        x.staff(0, 15);
        return asked(x);
    }

    /** As busy, but for the plan. */
    static PeerMarks lacking() {
        PeerMarks x = busy();
        x.rule(1, 1);
        return asked(x);
    }

    /** Eight pupils with a large piece, one of its works marked by staff, and a small piece. */
    static PeerMarks large() {
        PeerMarks x = of(8);
        for (int w = 1; w < 8; w++) {
            x.mark(0, w, 10 * w);
        }
        x.mark(1, 2, 90);
        x.mark(2, 1, 41);
        x.mark(3, 1, 20);
        x.mark(7, 0, 30);
        x.staff(1, 44);
        return asked(x);
    }

    /** What is kept between calls is worked out now. */
    static PeerMarks asked(PeerMarks x) {
        x.plan(0);
        x.worth(2, 0);
        x.count(4);
        x.quarrel();
        x.moves(0);
        return x;
    }

    /** All pupils mark all works of the others, by a rule that differs from mark to mark. */
    static void markAll(PeerMarks x, int n) {
        for (int p = 0; p < n; p++) {
            for (int w = 0; w < n; w++) {
                if (p != w) {
                    x.mark(p, w, (37 * p + 11 * w) % 101);
                }
            }
        }
    }

    static void befriendAll(PeerMarks x, int n) {
        for (int p = 0; p < n; p++) {
            for (int q = 0; q < p; q++) {
                x.friends(p, q, true);
            }
        }
    }

    /**
     * Numbers out of some bounds: the first on both sides, the farthest, and such as would be inside
     * if but their last 5, 8, 16 or 31 bits were looked at.
     */
    static int[] outside(int least, int greatest) {
        TreeSet<Integer> numbers = new TreeSet<>();
        numbers.add(least - 1);
        numbers.add(greatest + 1);
        numbers.add(Integer.MIN_VALUE);
        numbers.add(Integer.MAX_VALUE);
        for (int bits : new int[] {5, 8, 16, 31}) {
            for (int inside : new int[] {least, greatest}) {
                numbers.add(inside + (1 << bits));
                numbers.add(inside - (1 << bits));
            }
        }
        numbers.removeIf(v -> v >= least && v <= greatest);
        return numbers.stream().mapToInt(v -> v).toArray();
    }
}
