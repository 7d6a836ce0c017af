import java.util.Arrays;

/**
 * A marking house: pupils mark each other's works. The document's promises are answered here; the
 * classes inside hold the state and work out what is told of it.
 */
public final class PeerMarks {
    public static final int NONE = -1, UNKNOWN = -1001, OUTSIDE = -1002, NOT = -1003;

    private static final int FEWEST_PUPILS = 2, MOST_PUPILS = 8;
    private static final int HIGHEST_MARK = 100;
    /** A piece with more works and markers than this is large. */
    private static final int SMALL_PIECE = 10;

    private static final int EACH = 0, LOAD = 1, WIDE = 2;
    private static final int[] LEAST_RULE = {1, 1, 0};
    private static final int[] GREATEST_RULE = {4, 8, 100};

    private final House house;
    private final MarkBook book;
    private final Sharing sharing;
    private final Pieces pieces;
    private final Orders orders;

    public PeerMarks() {
        house = new House();
        book = new MarkBook(house);
        sharing = new Sharing(house);
        pieces = new Pieces(house, book);
        orders = new Orders(house, book);
    }

    // ---- the house

    public int pupils(int n) {
        if (n < FEWEST_PUPILS || n > MOST_PUPILS) {
            return OUTSIDE;
        }
        int was = house.size;
        house.settle(n);
        book.wipe();
        sharing.forget();
        pieces.forget();
        orders.forget();
        return was;
    }

    public int friends(int p, int q, boolean on) {
        if (!house.holds(p) || !house.holds(q)) {
            return UNKNOWN;
        }
        if (p == q) {
            return NOT;
        }
        int was = has(house.friendsOf[p], q) ? 1 : 0;
        house.befriend(p, q, on);
        sharing.forget();
        return was;
    }

    public int rule(int what, int v) {
        if (what < EACH || what > WIDE || v < LEAST_RULE[what] || v > GREATEST_RULE[what]) {
            return OUTSIDE;
        }
        int was = house.rules[what];
        house.rules[what] = v;
        sharing.forget();
        return was;
    }

    public int may(int p) {
        return house.holds(p) ? house.mayMark(p) : UNKNOWN;
    }

    // ---- sharing out

    public int plan(int w) {
        if (!house.holds(w)) {
            return UNKNOWN;
        }
        return sharing.isPossible() ? sharing.markers[w] : NOT;
    }

    public int shared(int p) {
        if (!house.holds(p)) {
            return UNKNOWN;
        }
        return sharing.isPossible() ? sharing.burden[p] : NOT;
    }

    public int lack() {
        return sharing.isPossible() ? 0 : sharing.leastLack();
    }

    public int parts() {
        return sharing.isPossible() ? sharing.countParts() : NOT;
    }

    // ---- marks

    public int mark(int p, int w, int v) {
        if (!house.holds(p) || !house.holds(w)) {
            return UNKNOWN;
        }
        if (v < NONE || v > HIGHEST_MARK) {
            return OUTSIDE;
        }
        if (p == w) {
            return NOT;
        }
        int was = book.given[p][w];
        book.given[p][w] = v;
        pieces.forget();
        orders.forget();
        return was;
    }

    public int staff(int w, int v) {
        if (!house.holds(w)) {
            return UNKNOWN;
        }
        if (v < NONE || v > HIGHEST_MARK) {
            return OUTSIDE;
        }
        int was = book.byStaff[w];
        book.byStaff[w] = v;
        pieces.forget();
        return was;
    }

    public int count(int what) {
        switch (what) {
            case 0:
                return house.size;
            case 1:
                return book.howManyMarks();
            case 2:
                return book.howManyByStaff();
            case 3:
                return pieces.howMany();
            case 4:
                return pieces.howManyLarge();
            case 5:
                return book.howManyAppealed();
            case 6:
                return house.pairsOfFriends();
            default:
                return OUTSIDE;
        }
    }

    // ---- worths

    public int piece(int k, int what) {
        if (!house.holds(k)) {
            return UNKNOWN;
        }
        if (what != 0 && what != 1) {
            return OUTSIDE;
        }
        return what == 0 ? pieces.ofWork(k) : pieces.ofMarker(k);
    }

    public long worth(int w, int what) {
        if (!house.holds(w)) {
            return UNKNOWN;
        }
        if (what != 0 && what != 1) {
            return OUTSIDE;
        }
        int k = pieces.ofWork(w);
        if (k == NONE) {
            return book.byStaff[w] == NONE ? NOT : inLeastTerms(book.byStaff[w], 1, what);
        }
        return pieces.isTold(k) ? inLeastTerms(pieces.worthTop[w], pieces.lower[k], what) : NOT;
    }

    public long lean(int p, int what) {
        if (!house.holds(p)) {
            return UNKNOWN;
        }
        if (what != 0 && what != 1) {
            return OUTSIDE;
        }
        int k = pieces.ofMarker(p);
        if (k == NONE || !pieces.isTold(k)) {
            return NOT;
        }
        return inLeastTerms(pieces.leanTop[p], pieces.lower[k], what);
    }

    public long left(int p, int w, int what) {
        if (!house.holds(p) || !house.holds(w)) {
            return UNKNOWN;
        }
        if (what != 0 && what != 1) {
            return OUTSIDE;
        }
        int v = book.given[p][w];
        int k = pieces.ofWork(w);
        if (v == NONE || k == NONE || !pieces.isTold(k)) {
            return NOT;
        }
        long top = v * pieces.lower[k] - pieces.worthTop[w] - pieces.leanTop[p];
        return inLeastTerms(top, pieces.lower[k], what);
    }

    // ---- orders

    public int order(int i) {
        return house.holds(i) ? orders.workAt(i) : OUTSIDE;
    }

    public int quarrel() {
        return orders.leastQuarrel();
    }

    public int turned(int p) {
        return house.holds(p) ? orders.turnedBy(p) : UNKNOWN;
    }

    public int moves(int p) {
        return house.holds(p) ? orders.farthestMove(p) : UNKNOWN;
    }

    // ---- appeals

    public int spread(int w) {
        return house.holds(w) ? book.spreadOf(w) : UNKNOWN;
    }

    public int next(int w) {
        return house.holds(w) ? book.nextMarker(w) : UNKNOWN;
    }

    public int digest() {
        return book.digestAll();
    }

    // ---- sets and fractions

    private static boolean has(int set, int k) {
        return (set >> k & 1) != 0;
    }

    /** The works that hang together with one work, when markers tells the set of each work's markers. */
    private static int tiedWorks(int[] markers, int size, int start) {
        int works = 1 << start;
        // a turn that adds no work is the last one, so there are no more turns than works
        for (int turn = 0; turn < size; turn++) {
            int wider = worksOf(markers, size, markersOf(markers, size, works)) | works;
            if (wider == works) {
                break;
            }
            works = wider;
        }
        return works;
    }

    private static int markersOf(int[] markers, int size, int works) {
        int set = 0;
        for (int w = 0; w < size; w++) {
            if (has(works, w)) {
                set |= markers[w];
            }
        }
        return set;
    }

    private static int worksOf(int[] markers, int size, int pupils) {
        int set = 0;
        for (int w = 0; w < size; w++) {
            if ((markers[w] & pupils) != 0) {
                set |= 1 << w;
            }
        }
        return set;
    }

    private static long inLeastTerms(long top, long lower, int what) {
        long common = commonDivisor(Math.abs(top), lower);
        if (common == 0) {
            return NOT;
        }
        return what == 0 ? top / common : lower / common;
    }

    private static long commonDivisor(long a, long b) {
        // the lesser number at least halves every second turn: 128 turns are enough for any two longs
        for (int turn = 0; turn < 128 && b != 0; turn++) {
            long rest = a % b;
            a = b;
            b = rest;
        }
        return a;
    }

    /** How many pupils there are, who are friends, and the numbers that rule. */
    private static final class House {
        int size = FEWEST_PUPILS;
        final int[] friendsOf = new int[MOST_PUPILS];
        final int[] rules = {2, 4, 30};

        void settle(int n) {
            size = n;
            Arrays.fill(friendsOf, 0);
        }

        boolean holds(int k) {
            return k >= 0 && k < size;
        }

        void befriend(int p, int q, boolean on) {
            if (on) {
                friendsOf[p] |= 1 << q;
                friendsOf[q] |= 1 << p;
            } else {
                friendsOf[p] &= ~(1 << q);
                friendsOf[q] &= ~(1 << p);
            }
        }

        /** The works that a pupil may mark; as friends are so of one another, also who may mark its work. */
        int mayMark(int p) {
            return ((1 << size) - 1) & ~(1 << p) & ~friendsOf[p];
        }

        int pairsOfFriends() {
            int ends = 0;
            for (int p = 0; p < size; p++) {
                ends += Integer.bitCount(friendsOf[p]);
            }
            return ends / 2;
        }
    }

    /** The marks of pupils and staff, and what is told of them one work at a time. */
    private static final class MarkBook {
        final House house;
        /** Rows by pupils, in each the marks by works. */
        final int[][] given = new int[MOST_PUPILS][MOST_PUPILS];
        final int[] byStaff = new int[MOST_PUPILS];

        MarkBook(House house) {
            this.house = house;
            wipe();
        }

        void wipe() {
            for (int p = 0; p < MOST_PUPILS; p++) {
                Arrays.fill(given[p], NONE);
            }
            Arrays.fill(byStaff, NONE);
        }

        int whoMarked(int w) {
            int set = 0;
            for (int p = 0; p < house.size; p++) {
                if (given[p][w] != NONE) {
                    set |= 1 << p;
                }
            }
            return set;
        }

        int marksBy(int p) {
            int many = 0;
            for (int w = 0; w < house.size; w++) {
                if (given[p][w] != NONE) {
                    many++;
                }
            }
            return many;
        }

        int howManyMarks() {
            int many = 0;
            for (int p = 0; p < house.size; p++) {
                many += marksBy(p);
            }
            return many;
        }

        int howManyByStaff() {
            int many = 0;
            for (int w = 0; w < house.size; w++) {
                if (byStaff[w] != NONE) {
                    many++;
                }
            }
            return many;
        }

        int howManyAppealed() {
            int many = 0;
            for (int w = 0; w < house.size; w++) {
                if (spreadOf(w) > house.rules[WIDE]) {
                    many++;
                }
            }
            return many;
        }

        int spreadOf(int w) {
            int least = HIGHEST_MARK;
            int greatest = NONE;
            for (int p = 0; p < house.size; p++) {
                int v = given[p][w];
                if (v != NONE) {
                    least = Math.min(least, v);
                    greatest = Math.max(greatest, v);
                }
            }
            return Math.max(greatest - least, 0);
        }

        int nextMarker(int w) {
            int free = house.mayMark(w) & ~whoMarked(w);
            int best = NONE;
            int fewest = MOST_PUPILS;
            for (int p = 0; p < house.size; p++) {
                if (has(free, p) && marksBy(p) < fewest) {
                    best = p;
                    fewest = marksBy(p);
                }
            }
            return best;
        }

        int digestAll() {
            int d = 7;
            for (int w = 0; w < house.size; w++) {
                for (int p = 0; p < house.size; p++) {
                    d = 31 * d + given[p][w];
                }
                d = 31 * d + byStaff[w];
            }
            return d;
        }
    }

    /** Who marks which: the plan, kept until the house changes, or the lack. */
    private static final class Sharing {
        final House house;
        /** The markers of each work, and how many works each pupil has by them. */
        final int[] markers = new int[MOST_PUPILS];
        final int[] burden = new int[MOST_PUPILS];
        /** Of a chain of pupils who pass works on: from whom a pupil gets one, and which. */
        final int[] giver = new int[MOST_PUPILS];
        final int[] gift = new int[MOST_PUPILS];
        boolean fresh = false;
        boolean possible = false;

        Sharing(House house) {
            this.house = house;
        }

        void forget() {
            fresh = false;
        }

        boolean isPossible() {
            if (!fresh) {
                fresh = true;
                possible = findAnyPlan();
                if (possible) {
                    makeFirst();
                }
            }
            return possible;
        }

        private boolean findAnyPlan() {
            Arrays.fill(markers, 0);
            Arrays.fill(burden, 0);
            for (int w = 0; w < house.size; w++) {
                for (int turn = 0; turn < house.rules[EACH]; turn++) {
                    if (!findMarker(w)) {
                        return false;
                    }
                }
            }
            return true;
        }

        private boolean findMarker(int w) {
            int free = house.mayMark(w) & ~markers[w];
            for (int p = 0; p < house.size; p++) {
                if (has(free, p)) {
                    take(w, p);
                    if (burden[p] <= house.rules[LOAD] || passOn(p, 0)) {
                        return true;
                    }
                    drop(w, p);
                }
            }
            return false;
        }

        /**
         * Turns any plan into the first one: each work in turn gets each pupil in turn that it can
         * have while what was settled before stays so.
         */
        private void makeFirst() {
            for (int w = 0; w < house.size; w++) {
                for (int p = 0; p < house.size; p++) {
                    if (has(house.mayMark(w) & ~markers[w], p)) {
                        bringIn(w, p);
                    }
                }
            }
        }

        /** Puts a pupil in the place of a later one, if the works behind can still have their markers. */
        private void bringIn(int w, int p) {
            for (int later = p + 1; later < house.size; later++) {
                if (has(markers[w], later)) {
                    drop(w, later);
                    take(w, p);
                    if (burden[p] <= house.rules[LOAD] || passOn(p, w + 1)) {
                        return;
                    }
                    drop(w, p);
                    take(w, later);
                }
            }
        }

        private void take(int w, int p) {
            markers[w] |= 1 << p;
            burden[p]++;
        }

        private void drop(int w, int p) {
            markers[w] &= ~(1 << p);
            burden[p]--;
        }

        /**
         * Rids a pupil of one work by a chain in which each passes a work, from number first on, to
         * another who may mark it, up to one who has room; false: there is no chain.
         */
        private boolean passOn(int start, int first) {
            int seen = 1 << start;
            int open = seen;
            // each pupil is opened once
            for (int turn = 0; turn < house.size && open != 0; turn++) {
                int p = leastOf(open);
                open &= ~(1 << p);
                int reached = reach(p, first, seen);
                int end = withRoom(reached);
                if (end != NONE) {
                    handDown(start, end);
                    return true;
                }
                seen |= reached;
                open |= reached;
            }
            return false;
        }

        private int leastOf(int set) {
            for (int p = 0; p < house.size; p++) {
                if (has(set, p)) {
                    return p;
                }
            }
            return 0;
        }

        /** Whom a pupil can pass a work to, without those seen; notes for each by whom and which. */
        private int reach(int p, int first, int seen) {
            int reached = 0;
            for (int w = first; w < house.size; w++) {
                if (has(markers[w], p)) {
                    int heirs = house.mayMark(w) & ~markers[w] & ~seen & ~reached;
                    for (int heir = 0; heir < house.size; heir++) {
                        if (has(heirs, heir)) {
                            giver[heir] = p;
                            gift[heir] = w;
                        }
                    }
                    reached |= heirs;
                }
            }
            return reached;
        }

        private int withRoom(int set) {
            for (int p = 0; p < house.size; p++) {
                if (has(set, p) && burden[p] < house.rules[LOAD]) {
                    return p;
                }
            }
            return NONE;
        }

        private void handDown(int start, int end) {
            int heir = end;
            // no pupil is twice in a chain
            for (int turn = 0; turn < house.size && heir != start; turn++) {
                int w = gift[heir];
                int p = giver[heir];
                drop(w, p);
                take(w, heir);
                heir = p;
            }
        }

        int leastLack() {
            int sets = 1 << house.size;
            for (int works = 1; works < sets; works++) {
                if (house.rules[EACH] * Integer.bitCount(works) > roomFor(works)) {
                    return works;
                }
            }
            return 0;
        }

        private int roomFor(int works) {
            int room = 0;
            for (int p = 0; p < house.size; p++) {
                room += Math.min(house.rules[LOAD], Integer.bitCount(house.mayMark(p) & works));
            }
            return room;
        }

        int countParts() {
            int many = 0;
            int seen = 0;
            for (int w = 0; w < house.size; w++) {
                if (!has(seen, w)) {
                    seen |= tiedWorks(markers, house.size, w);
                    many++;
                }
            }
            return many;
        }
    }

    /** Which works and markers hang together, and their worths and leans, kept until a mark changes. */
    private static final class Pieces {
        final House house;
        final MarkBook book;
        final Equations equations = new Equations();
        final int[] markers = new int[MOST_PUPILS];
        /** By pieces. */
        final int[] worksIn = new int[MOST_PUPILS];
        final int[] markersIn = new int[MOST_PUPILS];
        /** The lower number of all fractions of a piece; 0: not worked out yet. */
        final long[] lower = new long[MOST_PUPILS];
        final long[] worthTop = new long[MOST_PUPILS];
        final long[] leanTop = new long[MOST_PUPILS];
        /** Which unknown of the equations a work's worth and a pupil's lean is. */
        final int[] worthSlot = new int[MOST_PUPILS];
        final int[] leanSlot = new int[MOST_PUPILS];
        int many = 0;
        boolean fresh = false;

        Pieces(House house, MarkBook book) {
            this.house = house;
            this.book = book;
        }

        void forget() {
            fresh = false;
        }

        int howMany() {
            refresh();
            return many;
        }

        int howManyLarge() {
            refresh();
            int large = 0;
            for (int k = 0; k < many; k++) {
                if (isLarge(k)) {
                    large++;
                }
            }
            return large;
        }

        int ofWork(int w) {
            refresh();
            return whichHas(worksIn, w);
        }

        int ofMarker(int p) {
            refresh();
            return whichHas(markersIn, p);
        }

        private int whichHas(int[] sets, int member) {
            for (int k = 0; k < many; k++) {
                if (has(sets[k], member)) {
                    return k;
                }
            }
            return NONE;
        }

        /** Whether worths and leans of a piece are told; if so they stand in the rows from now on. */
        boolean isTold(int k) {
            if (isLarge(k)) {
                return false;
            }
            if (lower[k] == 0) {
                workOut(k);
            }
            return lower[k] != 0;
        }

        private boolean isLarge(int k) {
            return Integer.bitCount(worksIn[k]) + Integer.bitCount(markersIn[k]) > SMALL_PIECE;
        }

        private void refresh() {
            if (fresh) {
                return;
            }
            fresh = true;
            for (int w = 0; w < house.size; w++) {
                markers[w] = book.whoMarked(w);
            }
            many = 0;
            int seen = 0;
            for (int w = 0; w < house.size; w++) {
                if (markers[w] != 0 && !has(seen, w)) {
                    worksIn[many] = tiedWorks(markers, house.size, w);
                    markersIn[many] = markersOf(markers, house.size, worksIn[many]);
                    lower[many] = 0;
                    seen |= worksIn[many];
                    many++;
                }
            }
        }

        private void workOut(int k) {
            equations.start(giveSlots(k));
            for (int w = 0; w < house.size; w++) {
                if (has(worksIn[k], w)) {
                    writeMarksOf(w);
                }
            }
            if (!hasStaffMark(k)) {
                writeLeansAreNothingInAll(k);
            }
            lower[k] = equations.solve();
            readTops(k);
        }

        /** Answers how many unknowns there are; what staff marked is known. */
        private int giveSlots(int k) {
            int slots = 0;
            for (int i = 0; i < house.size; i++) {
                worthSlot[i] = NONE;
                leanSlot[i] = NONE;
                if (has(worksIn[k], i) && book.byStaff[i] == NONE) {
                    worthSlot[i] = slots++;
                }
                if (has(markersIn[k], i)) {
                    leanSlot[i] = slots++;
                }
            }
            return slots;
        }

        private boolean hasStaffMark(int k) {
            for (int w = 0; w < house.size; w++) {
                if (has(worksIn[k], w) && book.byStaff[w] != NONE) {
                    return true;
                }
            }
            return false;
        }

        private void writeMarksOf(int w) {
            for (int p = 0; p < house.size; p++) {
                if (has(markers[w], p)) {
                    if (worthSlot[w] == NONE) {
                        equations.addSquare(leanSlot[p], book.given[p][w] - book.byStaff[w]);
                    } else {
                        equations.addSquareOfSum(worthSlot[w], leanSlot[p], book.given[p][w]);
                    }
                }
            }
        }

        /**
         * Adds the square of the sum of all leans to what is to be least. Leans can all be shifted
         * against worths at no cost, so where it is least that sum is 0; and then no shift is free.
         */
        private void writeLeansAreNothingInAll(int k) {
            for (int p = 0; p < house.size; p++) {
                for (int q = 0; q < house.size; q++) {
                    if (has(markersIn[k], p) && has(markersIn[k], q)) {
                        equations.addFactor(leanSlot[p], leanSlot[q]);
                    }
                }
            }
        }

        private void readTops(int k) {
            for (int i = 0; i < house.size; i++) {
                if (has(worksIn[k], i)) {
                    boolean known = worthSlot[i] == NONE;
                    worthTop[i] = known ? book.byStaff[i] * lower[k] : equations.topOf(worthSlot[i]);
                }
                if (has(markersIn[k], i)) {
                    leanTop[i] = equations.topOf(leanSlot[i]);
                }
            }
        }
    }

    /** Equations for where a sum of squares is least, solved in whole numbers. */
    private static final class Equations {
        /** Behind the factors of a row stands what they are to make. */
        final long[][] rows = new long[SMALL_PIECE][SMALL_PIECE + 1];
        int size = 0;

        void start(int unknowns) {
            size = Math.max(0, Math.min(unknowns, SMALL_PIECE));
            for (int i = 0; i < size; i++) {
                Arrays.fill(rows[i], 0);
            }
        }

        private boolean holds(int i) {
            return i >= 0 && i < size;
        }

        /** Of v less unknown i. */
        void addSquare(int i, int v) {
            if (holds(i)) {
                rows[i][i]++;
                rows[i][size] += v;
            }
        }

        /** Of v less the unknowns i and j. */
        void addSquareOfSum(int i, int j, int v) {
            addSquare(i, v);
            addSquare(j, v);
            addFactor(i, j);
            addFactor(j, i);
        }

        void addFactor(int i, int j) {
            if (holds(i) && holds(j)) {
                rows[i][j]++;
            }
        }

        /**
         * Answers the lower number of all unknowns, above 0. Each step divides by the pivot before,
         * which leaves no rest (Bareiss), so all numbers stay small determinants of the factors. No
         * pivot is 0, as the sum of squares has just one least place.
         */
        long solve() {
            long before = 1;
            for (int k = 0; k < size; k++) {
                long pivot = rows[k][k];
                if (pivot == 0) {
                    return 0;
                }
                for (int i = 0; i < size; i++) {
                    if (i != k) {
                        clearFactor(i, k, before);
                    }
                }
                before = pivot;
            }
            return before;
        }

        private void clearFactor(int i, int k, long before) {
            if (before == 0) {
                return;
            }
            long[] row = rows[i];
            long[] with = rows[k];
            long pivot = with[k];
            long factor = row[k];
            for (int j = k; j <= size; j++) {
                row[j] = (row[j] * pivot - factor * with[j]) / before;
            }
        }

        long topOf(int i) {
            return holds(i) ? rows[i][size] : 0;
        }
    }

    /** The order with the least quarrel, kept until a mark changes. */
    private static final class Orders {
        private static final int SETS = 1 << MOST_PUPILS;
        private static final int BYTE = 8;

        final House house;
        final MarkBook book;
        /**
         * By sets: how often each work is turned with those of a set, if it is ahead of them; byte w
         * for work w, so that one sum serves all works. No byte spills: 7 pupils turn it with 7 works.
         */
        final long[] tolls = new long[SETS];
        /** By sets: the least quarrel within a set. */
        final int[] least = new int[SETS];
        final int[] row = new int[MOST_PUPILS];
        final int[] rowWithout = new int[MOST_PUPILS];
        final int[] moved = new int[MOST_PUPILS];
        int quarrelOfRow = 0;
        boolean fresh = false;

        Orders(House house, MarkBook book) {
            this.house = house;
            this.book = book;
        }

        void forget() {
            fresh = false;
        }

        int workAt(int place) {
            refresh();
            return row[place];
        }

        int leastQuarrel() {
            refresh();
            return quarrelOfRow;
        }

        int turnedBy(int p) {
            refresh();
            int many = 0;
            for (int i = 0; i < house.size; i++) {
                for (int j = i + 1; j < house.size; j++) {
                    if (turnsTwo(p, row[i], row[j])) {
                        many++;
                    }
                }
            }
            return many;
        }

        int farthestMove(int p) {
            refresh();
            if (moved[p] == NONE) {
                findOrder(p, rowWithout);
                moved[p] = farthest();
            }
            return moved[p];
        }

        private void refresh() {
            if (fresh) {
                return;
            }
            fresh = true;
            Arrays.fill(moved, NONE);
            quarrelOfRow = findOrder(NONE, row);
        }

        private boolean turnsTwo(int p, int ahead, int behind) {
            int given = book.given[p][ahead];
            return given != NONE && given < book.given[p][behind];
        }

        private int farthest() {
            int most = 0;
            for (int i = 0; i < house.size; i++) {
                for (int j = 0; j < house.size; j++) {
                    if (row[i] == rowWithout[j]) {
                        most = Math.max(most, Math.abs(i - j));
                    }
                }
            }
            return most;
        }

        /** Writes the order without the marks of one pupil (NONE: with all), and answers its quarrel. */
        private int findOrder(int without, int[] into) {
            countTolls(without);
            findLeast();
            int rest = (1 << house.size) - 1;
            int fewest = least[rest];
            for (int i = 0; i < house.size; i++) {
                into[i] = bestAhead(rest);
                rest &= ~(1 << into[i]);
            }
            return fewest;
        }

        private void countTolls(int without) {
            tolls[0] = 0;
            for (int w = 0; w < house.size; w++) {
                int bit = 1 << w;
                long more = tollsWith(w, without);
                for (int lesser = 0; lesser < bit; lesser++) {
                    tolls[bit | lesser] = tolls[lesser] + more;
                }
            }
        }

        private long tollsWith(int behind, int without) {
            long sum = 0;
            for (int p = 0; p < house.size; p++) {
                if (p != without) {
                    for (int ahead = 0; ahead < house.size; ahead++) {
                        if (turnsTwo(p, ahead, behind)) {
                            sum += 1L << BYTE * ahead;
                        }
                    }
                }
            }
            return sum;
        }

        private void findLeast() {
            int sets = 1 << house.size;
            least[0] = 0;
            for (int set = 1; set < sets; set++) {
                least[set] = Integer.MAX_VALUE;
                for (int w = 0; w < house.size; w++) {
                    if (has(set, w)) {
                        least[set] = Math.min(least[set], quarrelIfAhead(w, set));
                    }
                }
            }
        }

        private int quarrelIfAhead(int w, int set) {
            int others = set & ~(1 << w);
            return least[others] + (int) (tolls[others] >> BYTE * w & 255);
        }

        /** The least work that can stand ahead of a set's others at the least quarrel. */
        private int bestAhead(int set) {
            for (int w = 0; w < house.size; w++) {
                if (has(set, w) && quarrelIfAhead(w, set) == least[set]) {
                    return w;
                }
            }
            return 0;
        }
    }
}
