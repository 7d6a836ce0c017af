import java.util.Random;

/**
 * Long runs of calls, ordinary and wrong ones, against the slow model. Each run has its own bent, so
 * that dense and sparse houses, ties, tight plans, small and large pieces all come up.
 */
final class ModelTest {
    private static final int[] ODD = {Integer.MIN_VALUE, -1003, -2, -1, 8, 9, 31, 32, 101, Integer.MAX_VALUE};

    private final Check check = new Check("ModelTest");
    private final Random random;
    private final PeerMarks x = new PeerMarks();
    private final Model model = new Model();
    private final int run;
    private final int size;
    private final int marksUpTo;
    private final int changesInTen;
    private int calls = 0;

    private ModelTest(int run) {
        this.run = run;
        random = new Random(run);
        size = 2 + run % 7;
        marksUpTo = random.nextBoolean() ? 100 : 1 + random.nextInt(4);
        changesInTen = 1 + random.nextInt(7);
    }

    private int one() {
        return random.nextInt(40) == 0 ? ODD[random.nextInt(ODD.length)] : random.nextInt(size);
    }

    private int what(int choices) {
        return random.nextInt(40) == 0 ? ODD[random.nextInt(ODD.length)] : random.nextInt(choices);
    }

    private int value() {
        int kind = random.nextInt(40);
        if (kind == 0) {
            return ODD[random.nextInt(ODD.length)];
        }
        return kind < 10 ? -1 : random.nextInt(marksUpTo + 1);
    }

    private void due(String call, long got, long want) {
        check.due("run " + run + ", call " + calls + ": " + call, got, want);
        calls++;
    }

    private void change() {
        int p = one();
        int w = one();
        int v = value();
        switch (random.nextInt(12)) {
            case 0:
                boolean on = random.nextInt(3) > 0;
                due("friends(" + p + ", " + w + ", " + on + ")", x.friends(p, w, on), model.friends(p, w, on));
                break;
            case 1:
                int k = what(3);
                int to = k == 2 ? v : random.nextInt(10);
                due("rule(" + k + ", " + to + ")", x.rule(k, to), model.rule(k, to));
                break;
            case 2:
            case 3:
                due("staff(" + w + ", " + v + ")", x.staff(w, v), model.staff(w, v));
                break;
            case 4:
                int n = random.nextInt(20) == 0 ? size : what(2);
                due("pupils(" + n + ")", x.pupils(n), model.pupils(n));
                break;
            default:
                due("mark(" + p + ", " + w + ", " + v + ")", x.mark(p, w, v), model.mark(p, w, v));
        }
    }

    private void askOfHouse() {
        int k = one();
        int c = what(7);
        switch (random.nextInt(8)) {
            case 0:
                due("may(" + k + ")", x.may(k), model.may(k));
                break;
            case 1:
                due("plan(" + k + ")", x.plan(k), model.plan(k));
                break;
            case 2:
                due("shared(" + k + ")", x.shared(k), model.shared(k));
                break;
            case 3:
                due("lack()", x.lack(), model.lack());
                break;
            case 4:
                due("parts()", x.parts(), model.parts());
                break;
            case 5:
                due("spread(" + k + ")", x.spread(k), model.spread(k));
                break;
            case 6:
                due("next(" + k + ")", x.next(k), model.next(k));
                break;
            default:
                due("count(" + c + ")", x.count(c), model.count(c));
        }
    }

    private void askOfMarks() {
        int k = one();
        int w = one();
        int c = what(2);
        switch (random.nextInt(9)) {
            case 0:
                due("piece(" + k + ", " + c + ")", x.piece(k, c), model.piece(k, c));
                break;
            case 1:
                due("worth(" + k + ", " + c + ")", x.worth(k, c), model.worth(k, c));
                break;
            case 2:
                due("lean(" + k + ", " + c + ")", x.lean(k, c), model.lean(k, c));
                break;
            case 3:
                due("left(" + k + ", " + w + ", " + c + ")", x.left(k, w, c), model.left(k, w, c));
                break;
            case 4:
                due("order(" + k + ")", x.order(k), model.order(k));
                break;
            case 5:
                due("quarrel()", x.quarrel(), model.quarrel());
                break;
            case 6:
                due("turned(" + k + ")", x.turned(k), model.turned(k));
                break;
            case 7:
                due("moves(" + k + ")", x.moves(k), model.moves(k));
                break;
            default:
                due("digest()", x.digest(), model.digest());
        }
    }

    /** Marks and friends before the mixed calls, so that most runs have much to ask of. */
    private void begin() {
        due("pupils(" + size + ")", x.pupils(size), model.pupils(size));
        int marksInTen = random.nextInt(11);
        int friendsInTen = random.nextInt(5);
        for (int p = 0; p < size; p++) {
            for (int w = 0; w < size; w++) {
                if (random.nextInt(10) < marksInTen) {
                    int v = random.nextInt(marksUpTo + 1);
                    due("mark(" + p + ", " + w + ", " + v + ")", x.mark(p, w, v), model.mark(p, w, v));
                }
                if (p < w && random.nextInt(10) < friendsInTen) {
                    due("friends(" + p + ", " + w + ", true)", x.friends(p, w, true), model.friends(p, w, true));
                }
            }
        }
        int each = 1 + random.nextInt(4);
        int load = Math.min(8, each + random.nextInt(3));
        due("rule(0, " + each + ")", x.rule(0, each), model.rule(0, each));
        due("rule(1, " + load + ")", x.rule(1, load), model.rule(1, load));
    }

    private Check play() {
        begin();
        while (calls < 512 && !check.hasWrong()) {
            if (random.nextInt(10) < changesInTen) {
                change();
            } else if (random.nextBoolean()) {
                askOfHouse();
            } else {
                askOfMarks();
            }
        }
        return check;
    }

    public static void main(String[] args) {
        Check all = new Check("ModelTest");
        int runs = args.length > 0 ? Integer.parseInt(args[0]) : 105;
        for (int run = 0; run < runs; run++) {
            all.isTrue("run " + run, !new ModelTest(run).play().hasWrong());
        }
        all.end();
    }
}
