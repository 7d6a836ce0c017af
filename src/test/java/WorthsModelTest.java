import java.util.Random;

/** Pieces up to the largest that are told, with marks at their bounds, against fractions without bounds. */
final class WorthsModelTest {
    private static final Check CHECK = new Check("WorthsModelTest");

    private final Random random;
    private final PeerMarks x = new PeerMarks();
    private final Model model = new Model();

    private WorthsModelTest(int seed) {
        random = new Random(seed);
    }

    private int value(boolean atBounds) {
        return atBounds ? 100 * random.nextInt(2) : random.nextInt(101);
    }

    /** The last works and the first markers, so that few of them are one's own. */
    private void fill(int works, int markers, int marksInTen, int staffInTen) {
        boolean atBounds = random.nextBoolean();
        for (int w = 8 - works; w < 8; w++) {
            for (int p = 0; p < markers; p++) {
                if (random.nextInt(10) < marksInTen) {
                    int v = value(atBounds);
                    x.mark(p, w, v);
                    model.mark(p, w, v);
                }
            }
            if (random.nextInt(10) < staffInTen) {
                int v = value(atBounds);
                x.staff(w, v);
                model.staff(w, v);
            }
        }
    }

    private void compare(String house) {
        for (int k = 0; k < 8; k++) {
            for (int what = 0; what < 2; what++) {
                String rest = "(" + k + ", .. " + what + ") ";
                CHECK.due(house + "worth" + rest, x.worth(k, what), model.worth(k, what));
                CHECK.due(house + "lean" + rest, x.lean(k, what), model.lean(k, what));
                int w = random.nextInt(8);
                CHECK.due(house + "left" + rest, x.left(k, w, what), model.left(k, w, what));
            }
        }
    }

    public static void main(String[] args) {
        int seed = 0;
        for (int round = 0; round < 3; round++) {
            for (int works = 2; works <= 8; works++) {
                for (int marksInTen = 2; marksInTen <= 10; marksInTen += 2) {
                    for (int staffInTen = 0; staffInTen <= 4; staffInTen += 2) {
                        WorthsModelTest run = new WorthsModelTest(seed);
                        run.x.pupils(8);
                        run.model.pupils(8);
                        run.fill(works, 10 - works, marksInTen, staffInTen);
                        run.compare("seed " + seed + ": ");
                        seed++;
                    }
                }
            }
        }
        CHECK.end();
    }
}
