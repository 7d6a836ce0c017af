import java.util.Arrays;

/**
 * The document in its slowest and plainest form: plans by trying rows in their order, orders by
 * trying all, worths by fractions; nothing is kept between calls. Shares no code with PeerMarks.
 */
final class Model {
    static final int NONE = -1, UNKNOWN = -1001, OUTSIDE = -1002, NOT = -1003;

    private int n;
    private boolean[][] friend;
    private int[][] marks;
    private int[] staffMarks;
    private int each = 2;
    private int load = 4;
    private int wide = 30;

    Model() {
        n = 2;
        empty();
    }

    private void empty() {
        friend = new boolean[n][n];
        marks = new int[n][n];
        for (int[] row : marks) {
            Arrays.fill(row, NONE);
        }
        staffMarks = new int[n];
        Arrays.fill(staffMarks, NONE);
    }

    private boolean no(int k) {
        return k < 0 || k >= n;
    }

    private static boolean has(int set, int k) {
        return (set & (1 << k)) != 0;
    }

    // ---- the house

    int pupils(int count) {
        if (count < 2 || count > 8) {
            return OUTSIDE;
        }
        int was = n;
        n = count;
        empty();
        return was;
    }

    int friends(int p, int q, boolean on) {
        if (no(p) || no(q)) {
            return UNKNOWN;
        }
        if (p == q) {
            return NOT;
        }
        int was = friend[p][q] ? 1 : 0;
        friend[p][q] = on;
        friend[q][p] = on;
        return was;
    }

    int rule(int what, int v) {
        int was;
        if (what == 0 && v >= 1 && v <= 4) {
            was = each;
            each = v;
        } else if (what == 1 && v >= 1 && v <= 8) {
            was = load;
            load = v;
        } else if (what == 2 && v >= 0 && v <= 100) {
            was = wide;
            wide = v;
        } else {
            was = OUTSIDE;
        }
        return was;
    }

    private boolean isAllowed(int p, int w) {
        return p != w && !friend[p][w];
    }

    int may(int p) {
        if (no(p)) {
            return UNKNOWN;
        }
        int set = 0;
        for (int w = 0; w < n; w++) {
            if (isAllowed(p, w)) {
                set += 1 << w;
            }
        }
        return set;
    }

    // ---- sharing out

    int lack() {
        int[] room = new int[n];
        Arrays.fill(room, load);
        return lackBehind(0, room);
    }

    /** The least set of works from first on that can't have their markers by Hall's condition, or 0. */
    private int lackBehind(int first, int[] room) {
        for (int set = 1; set < 1 << n; set++) {
            if ((set & ((1 << first) - 1)) != 0) {
                continue;
            }
            int sum = 0;
            for (int p = 0; p < n; p++) {
                int open = 0;
                for (int w = 0; w < n; w++) {
                    if (has(set, w) && isAllowed(p, w)) {
                        open++;
                    }
                }
                sum += Math.min(room[p], open);
            }
            if (each * Integer.bitCount(set) > sum) {
                return set;
            }
        }
        return 0;
    }

    /** Null: there is none. With four pupils or fewer all is tried, without a look at the lack. */
    int[] wholePlan() {
        int[] room = new int[n];
        Arrays.fill(room, load);
        int[] sets = new int[n];
        return choose(0, 0, 0, sets, room) ? sets : null;
    }

    private boolean choose(int w, int from, int chosen, int[] sets, int[] room) {
        if (w == n) {
            return true;
        }
        if (chosen == each) {
            if (n > 4 && lackBehind(w + 1, room) != 0) {
                return false;
            }
            return choose(w + 1, 0, 0, sets, room);
        }
        for (int p = from; p < n; p++) {
            if (isAllowed(p, w) && room[p] > 0) {
                sets[w] |= 1 << p;
                room[p]--;
                if (choose(w, p + 1, chosen + 1, sets, room)) {
                    return true;
                }
                room[p]++;
                sets[w] &= ~(1 << p);
            }
        }
        return false;
    }

    int plan(int w) {
        if (no(w)) {
            return UNKNOWN;
        }
        int[] sets = wholePlan();
        return sets == null ? NOT : sets[w];
    }

    int shared(int p) {
        if (no(p)) {
            return UNKNOWN;
        }
        int[] sets = wholePlan();
        if (sets == null) {
            return NOT;
        }
        int many = 0;
        for (int set : sets) {
            if (has(set, p)) {
                many++;
            }
        }
        return many;
    }

    int parts() {
        int[] sets = wholePlan();
        if (sets == null) {
            return NOT;
        }
        int[] label = labels(sets);
        int many = 0;
        for (int w = 0; w < n; w++) {
            if (label[w] == w) {
                many++;
            }
        }
        return many;
    }

    /**
     * Works are things 0 to n - 1, markers n to 2n - 1; each thing bears the number of the least one
     * that it hangs together with.
     */
    private int[] labels(int[] sets) {
        int[] label = new int[2 * n];
        for (int i = 0; i < 2 * n; i++) {
            label[i] = i;
        }
        for (int round = 0; round < 2 * n; round++) {
            for (int w = 0; w < n; w++) {
                for (int p = 0; p < n; p++) {
                    if (has(sets[w], p)) {
                        int least = Math.min(label[w], label[n + p]);
                        label[w] = least;
                        label[n + p] = least;
                    }
                }
            }
        }
        return label;
    }

    // ---- marks

    int mark(int p, int w, int v) {
        if (no(p) || no(w)) {
            return UNKNOWN;
        }
        if (v < -1 || v > 100) {
            return OUTSIDE;
        }
        if (p == w) {
            return NOT;
        }
        int was = marks[p][w];
        marks[p][w] = v;
        return was;
    }

    int staff(int w, int v) {
        if (no(w)) {
            return UNKNOWN;
        }
        if (v < -1 || v > 100) {
            return OUTSIDE;
        }
        int was = staffMarks[w];
        staffMarks[w] = v;
        return was;
    }

    int count(int what) {
        int many = 0;
        switch (what) {
            case 0:
                return n;
            case 1:
                for (int p = 0; p < n; p++) {
                    many += marksBy(p);
                }
                return many;
            case 2:
                for (int v : staffMarks) {
                    many += v == NONE ? 0 : 1;
                }
                return many;
            case 3:
                while (pieceAt(many) != NONE) {
                    many++;
                }
                return many;
            case 4:
                for (int k = 0; pieceAt(k) != NONE; k++) {
                    many += isLarge(pieceAt(k)) ? 1 : 0;
                }
                return many;
            case 5:
                for (int w = 0; w < n; w++) {
                    many += spread(w) > wide ? 1 : 0;
                }
                return many;
            case 6:
                for (int p = 0; p < n; p++) {
                    for (int q = 0; q < p; q++) {
                        many += friend[p][q] ? 1 : 0;
                    }
                }
                return many;
            default:
                return OUTSIDE;
        }
    }

    private int marksBy(int p) {
        int many = 0;
        for (int v : marks[p]) {
            many += v == NONE ? 0 : 1;
        }
        return many;
    }

    // ---- worths

    private int[] markLabels() {
        int[] sets = new int[n];
        for (int w = 0; w < n; w++) {
            for (int p = 0; p < n; p++) {
                if (marks[p][w] != NONE) {
                    sets[w] |= 1 << p;
                }
            }
        }
        return labels(sets);
    }

    private static int sizeOf(int[] label, int of) {
        int many = 0;
        for (int l : label) {
            many += l == of ? 1 : 0;
        }
        return many;
    }

    /** The label of piece k, or NONE. */
    private int pieceAt(int k) {
        int[] label = markLabels();
        int number = 0;
        for (int w = 0; w < n; w++) {
            if (label[w] == w && sizeOf(label, w) > 1) {
                if (number == k) {
                    return w;
                }
                number++;
            }
        }
        return NONE;
    }

    private boolean isLarge(int label) {
        return sizeOf(markLabels(), label) > 10;
    }

    int piece(int k, int what) {
        if (no(k)) {
            return UNKNOWN;
        }
        if (what < 0 || what > 1) {
            return OUTSIDE;
        }
        int of = markLabels()[what == 0 ? k : n + k];
        for (int number = 0; pieceAt(number) != NONE; number++) {
            if (pieceAt(number) == of) {
                return number;
            }
        }
        return NONE;
    }

    /**
     * Worths and leans of the things that bear a label, by their numbers: a row for each unknown
     * (what it is the derivative by is 0), one of them without staff marks that leans are 0 in all.
     */
    private Fraction[] solve(int of) {
        int[] label = markLabels();
        Fraction[][] rows = new Fraction[2 * n][2 * n + 1];
        boolean held = false;
        for (int i = 0; i < 2 * n; i++) {
            Arrays.fill(rows[i], Fraction.ZERO);
            if (label[i] != of) {
                rows[i][i] = Fraction.of(1);
            } else if (i < n && staffMarks[i] != NONE) {
                held = true;
                rows[i][i] = Fraction.of(1);
                rows[i][2 * n] = Fraction.of(staffMarks[i]);
            } else {
                for (int j = 0; j < n; j++) {
                    int v = i < n ? marks[j][i] : marks[i - n][j];
                    if (v != NONE) {
                        int other = i < n ? n + j : j;
                        rows[i][i] = rows[i][i].plus(Fraction.of(1));
                        rows[i][other] = rows[i][other].plus(Fraction.of(1));
                        rows[i][2 * n] = rows[i][2 * n].plus(Fraction.of(v));
                    }
                }
            }
        }
        if (!held) {
            Arrays.fill(rows[of], Fraction.ZERO);
            for (int p = 0; p < n; p++) {
                if (label[n + p] == of) {
                    rows[of][n + p] = Fraction.of(1);
                }
            }
        }
        return eliminate(rows);
    }

    private static Fraction[] eliminate(Fraction[][] rows) {
        int size = rows.length;
        for (int k = 0; k < size; k++) {
            int pivot = k;
            while (rows[pivot][k].isZero()) {
                pivot++;
            }
            Fraction[] swap = rows[k];
            rows[k] = rows[pivot];
            rows[pivot] = swap;
            for (int i = 0; i < size; i++) {
                if (i != k && !rows[i][k].isZero()) {
                    Fraction factor = rows[i][k].over(rows[k][k]);
                    for (int j = k; j <= size; j++) {
                        rows[i][j] = rows[i][j].minus(factor.times(rows[k][j]));
                    }
                }
            }
        }
        Fraction[] answer = new Fraction[size];
        for (int k = 0; k < size; k++) {
            answer[k] = rows[k][size].over(rows[k][k]);
        }
        return answer;
    }

    long worth(int w, int what) {
        if (no(w)) {
            return UNKNOWN;
        }
        if (what < 0 || what > 1) {
            return OUTSIDE;
        }
        if (piece(w, 0) == NONE) {
            return staffMarks[w] == NONE ? NOT : what == 0 ? staffMarks[w] : 1;
        }
        int label = markLabels()[w];
        return isLarge(label) ? NOT : solve(label)[w].number(what);
    }

    long lean(int p, int what) {
        if (no(p)) {
            return UNKNOWN;
        }
        if (what < 0 || what > 1) {
            return OUTSIDE;
        }
        int label = markLabels()[n + p];
        if (marksBy(p) == 0 || isLarge(label)) {
            return NOT;
        }
        return solve(label)[n + p].number(what);
    }

    long left(int p, int w, int what) {
        if (no(p) || no(w)) {
            return UNKNOWN;
        }
        if (what < 0 || what > 1) {
            return OUTSIDE;
        }
        int label = markLabels()[w];
        if (marks[p][w] == NONE || isLarge(label)) {
            return NOT;
        }
        Fraction[] solved = solve(label);
        return Fraction.of(marks[p][w]).minus(solved[w]).minus(solved[n + p]).number(what);
    }

    // ---- orders

    private int turns(int p, int ahead, int behind) {
        boolean both = marks[p][ahead] != NONE && marks[p][behind] != NONE;
        return both && marks[p][ahead] < marks[p][behind] ? 1 : 0;
    }

    private int least;
    private int[] best;

    /** Orders are tried as rows in their order, so of several the first one stays. */
    private void tryOrders(int[] row, int placed, int sum, int without) {
        if (sum >= least) {
            return;
        }
        if (placed == n) {
            least = sum;
            best = row.clone();
            return;
        }
        for (int w = 0; w < n; w++) {
            boolean used = false;
            int more = 0;
            for (int i = 0; i < placed; i++) {
                used |= row[i] == w;
                for (int p = 0; p < n; p++) {
                    more += p == without ? 0 : turns(p, row[i], w);
                }
            }
            if (!used) {
                row[placed] = w;
                tryOrders(row, placed + 1, sum + more, without);
            }
        }
    }

    private int[] wholeOrder(int without) {
        least = Integer.MAX_VALUE;
        tryOrders(new int[n], 0, 0, without);
        return best;
    }

    int order(int i) {
        return no(i) ? OUTSIDE : wholeOrder(NONE)[i];
    }

    int quarrel() {
        wholeOrder(NONE);
        return least;
    }

    int turned(int p) {
        if (no(p)) {
            return UNKNOWN;
        }
        int[] row = wholeOrder(NONE);
        int many = 0;
        for (int i = 0; i < n; i++) {
            for (int j = i + 1; j < n; j++) {
                many += turns(p, row[i], row[j]);
            }
        }
        return many;
    }

    int moves(int p) {
        if (no(p)) {
            return UNKNOWN;
        }
        int[] with = wholeOrder(NONE);
        int[] without = wholeOrder(p);
        int most = 0;
        for (int w = 0; w < n; w++) {
            most = Math.max(most, Math.abs(placeOf(with, w) - placeOf(without, w)));
        }
        return most;
    }

    private static int placeOf(int[] row, int w) {
        int i = 0;
        while (row[i] != w) {
            i++;
        }
        return i;
    }

    // ---- appeals

    int spread(int w) {
        if (no(w)) {
            return UNKNOWN;
        }
        int most = 0;
        for (int p = 0; p < n; p++) {
            for (int q = 0; q < n; q++) {
                if (marks[p][w] != NONE && marks[q][w] != NONE) {
                    most = Math.max(most, marks[p][w] - marks[q][w]);
                }
            }
        }
        return most;
    }

    int next(int w) {
        if (no(w)) {
            return UNKNOWN;
        }
        for (int many = 0; many < n; many++) {
            for (int p = 0; p < n; p++) {
                if (isAllowed(p, w) && marks[p][w] == NONE && marksBy(p) == many) {
                    return p;
                }
            }
        }
        return NONE;
    }

    int digest() {
        int d = 7;
        for (int w = 0; w < n; w++) {
            for (int p = 0; p < n; p++) {
                d = d * 31 + marks[p][w];
            }
            d = d * 31 + staffMarks[w];
        }
        return d;
    }
}
