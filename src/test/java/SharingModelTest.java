/** Every house of two to five pupils, with all rules of EACH and LOAD, against the slow model. */
final class SharingModelTest {
    private static final Check CHECK = new Check("SharingModelTest");

    private static void befriend(PeerMarks x, Model model, int n, int pairs) {
        int pair = 0;
        for (int p = 0; p < n; p++) {
            for (int q = 0; q < p; q++) {
                boolean on = (pairs >> pair & 1) != 0;
                x.friends(p, q, on);
                model.friends(q, p, on);
                pair++;
            }
        }
    }

    private static void compare(PeerMarks x, Model model, int n, String house) {
        int[] sets = model.wholePlan();
        CHECK.due(house + " lack()", x.lack(), model.lack());
        CHECK.isTrue(house + " a lack just where no plan is", (x.lack() == 0) == (sets != null));
        CHECK.due(house + " parts()", x.parts(), model.parts());
        for (int w = 0; w < n; w++) {
            CHECK.due(house + " plan(" + w + ")", x.plan(w), sets == null ? Model.NOT : sets[w]);
            CHECK.due(house + " shared(" + w + ")", x.shared(w), model.shared(w));
        }
    }

    public static void main(String[] args) {
        Model model = new Model();
        for (int n = 2; n <= 5; n++) {
            for (int pairs = 0; pairs < 1 << n * (n - 1) / 2; pairs++) {
                for (int each = 1; each <= 4; each++) {
                    // an object is used for 512 calls at most
                    PeerMarks x = new PeerMarks();
                    x.pupils(n);
                    model.pupils(n);
                    befriend(x, model, n, pairs);
                    x.rule(0, each);
                    model.rule(0, each);
                    for (int load = 1; load <= 8; load++) {
                        x.rule(1, load);
                        model.rule(1, load);
                        compare(x, model, n, n + " pupils, friends " + pairs + ", " + each + ", " + load + ":");
                    }
                }
            }
        }
        CHECK.end();
    }
}
