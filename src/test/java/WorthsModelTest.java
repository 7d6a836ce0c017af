import java.util.Random;

/**
 * Pieces up to the largest that are told, with marks at their bounds, and every way in which three
 * pupils and the staff can have marked, against fractions without bounds.
 */
final class WorthsModelTest {
    private static final Check CHECK = new Check("WorthsModelTest");

    private final Random random;
    private final PeerMarks x = new PeerMarks();
    private final Model model = new Model();

    private WorthsModelTest(int seed, int pupils) {
        random = new Random(seed);
        x.pupils(pupils);
        model.pupils(pupils);
    }

    private void mark(int p, int w, int v) {
        x.mark(p, w, v);
        model.mark(p, w, v);
    }

    private void staff(int w, int v) {
        x.staff(w, v);
        model.staff(w, v);
    }

    private int value(boolean atBounds) {
        return atBounds ? 100 * random.nextInt(2) : random.nextInt(101);
    }

    /** The last works and the first markers, so that few of them are one's own. */
    private void fill(int works, int markers, int marksInTen, int staffInTen) {
        boolean atBounds = random.nextBoolean();
        for (int w = 8 - works; w < 8; w++) {
            for (int p = 0; p < markers; p++) {
                if (random.nextInt(10) < marksInTen) {
                    mark(p, w, value(atBounds));
                }
            }
            if (random.nextInt(10) < staffInTen) {
                staff(w, value(atBounds));
            }
        }
    }

    /** Three pupils: bits tell who marked which, one's own among them, which is refused, and what the staff marked. */
    private void fillThree(int given, int byStaff) {
        for (int w = 0; w < 3; w++) {
            for (int p = 0; p < 3; p++) {
                if ((given >> 3 * w + p & 1) != 0) {
                    mark(p, w, value(false));
                }
            }
            if ((byStaff >> w & 1) != 0) {
                staff(w, value(false));
            }
        }
    }

    private void compare(String house) {
        for (int k = 0; k < 8; k++) {
            for (int what = 0; what < 2; what++) {
                String rest = "(" + k + ", .. " + what + ") ";
                CHECK.due(house + "worth" + rest, x.worth(k, what), model.worth(k, what));
                CHECK.due(house + "lean" + rest, x.lean(k, what), model.lean(k, what));
                int w = random.nextInt(8);
                CHECK.due(house + "left" + rest, x.left(k, w, what), model.left(k, w, what));
            }
        }
    }

    private static void compareThree() {
        for (int given = 0; given < 1 << 9; given++) {
            for (int byStaff = 0; byStaff < 1 << 3; byStaff++) {
                WorthsModelTest run = new WorthsModelTest(given, 3);
                run.fillThree(given, byStaff);
                run.compare("three, marks " + given + ", staff " + byStaff + ": ");
            }
        }
    }

    private static void compareEight() {
        int seed = 0;
        for (int round = 0; round < 3; round++) {
            for (int works = 2; works <= 8; works++) {
                for (int marksInTen = 2; marksInTen <= 10; marksInTen += 2) {
                    for (int staffInTen = 0; staffInTen <= 4; staffInTen += 2) {
                        WorthsModelTest run = new WorthsModelTest(seed, 8);
                        run.fill(works, 10 - works, marksInTen, staffInTen);
                        run.compare("seed " + seed + ": ");
                        seed++;
                    }
                }
            }
        }
    }

    public static void main(String[] args) {
        compareThree();
        compareEight();
        CHECK.end();
    }
}
