/** Every house of three pupils with marks from none to 3, and of four with none, 0 and 1, against the slow model. */
final class OrdersModelTest {
    private static final Check CHECK = new Check("OrdersModelTest");

    private static void compare(int n, int kinds, long house) {
        PeerMarks x = new PeerMarks();
        Model model = new Model();
        x.pupils(n);
        model.pupils(n);
        long rest = house;
        for (int p = 0; p < n; p++) {
            for (int w = 0; w < n; w++) {
                if (p != w) {
                    int v = (int) (rest % kinds) - 1;
                    rest /= kinds;
                    x.mark(p, w, v);
                    model.mark(p, w, v);
                }
            }
        }
        String name = n + " pupils, house " + house + ": ";
        CHECK.due(name + "quarrel()", x.quarrel(), model.quarrel());
        CHECK.due(name + "digest()", x.digest(), model.digest());
        for (int k = 0; k < n; k++) {
            CHECK.due(name + "order", x.order(k), model.order(k));
            CHECK.due(name + "turned", x.turned(k), model.turned(k));
            CHECK.due(name + "moves", x.moves(k), model.moves(k));
            CHECK.due(name + "spread", x.spread(k), model.spread(k));
            CHECK.due(name + "next", x.next(k), model.next(k));
        }
    }

    private static void compareAll(int n, int kinds) {
        long houses = 1;
        for (int marks = 0; marks < n * (n - 1); marks++) {
            houses *= kinds;
        }
        for (long house = 0; house < houses; house++) {
            compare(n, kinds, house);
        }
    }

    public static void main(String[] args) {
        compareAll(3, 5);
        compareAll(4, 3);
        CHECK.end();
    }
}
