/** Promises 6 to 9: plan, shared, lack, parts. */
final class SharingTest {
    private static final Check CHECK = new Check("SharingTest");
    private static final int[] WRONG = {Integer.MIN_VALUE, -1, 5, 8, 32, Integer.MAX_VALUE};

    private static PeerMarks house(int n, int each, int load) {
        PeerMarks x = new PeerMarks();
        x.pupils(n);
        x.rule(0, each);
        x.rule(1, load);
        return x;
    }

    private static void duePlan(String house, PeerMarks x, int... sets) {
        for (int w = 0; w < sets.length; w++) {
            CHECK.due(house + ": plan(" + w + ")", x.plan(w), sets[w]);
        }
        for (int p = 0; p < sets.length; p++) {
            int many = 0;
            for (int set : sets) {
                many += set >> p & 1;
            }
            CHECK.due(house + ": shared(" + p + ")", x.shared(p), many);
        }
        CHECK.due(house + ": lack()", x.lack(), 0);
    }

    private static void dueNoPlan(String house, PeerMarks x, int lack) {
        CHECK.due(house + ": plan(0)", x.plan(0), PeerMarks.NOT);
        CHECK.due(house + ": shared(1)", x.shared(1), PeerMarks.NOT);
        CHECK.due(house + ": parts()", x.parts(), PeerMarks.NOT);
        CHECK.due(house + ": lack()", x.lack(), lack);
    }

    private static void plans() {
        duePlan("room for all", house(4, 2, 4), 0b0110, 0b0101, 0b0011, 0b0011);
        duePlan("just room", house(4, 1, 1), 0b0010, 0b0001, 0b1000, 0b0100);
        duePlan("everybody marks all", house(3, 2, 2), 0b110, 0b101, 0b011);
        // the first row of work 2, {0}, would leave work 3 with nobody, as 1 and 2 are its friends
        PeerMarks x = house(4, 1, 2);
        x.friends(3, 1, true);
        x.friends(3, 2, true);
        duePlan("kept for a later work", x, 0b0010, 0b0001, 0b0010, 0b0001);
        // now 0 is kept for work 3, so 2 for work 1 and 1 for work 2
        x.rule(1, 1);
        duePlan("kept for later works, load 1", x, 0b1000, 0b0100, 0b0010, 0b0001);
    }

    private static void plansFollowTheHouse() {
        PeerMarks x = house(3, 1, 4);
        duePlan("before", x, 0b010, 0b001, 0b001);
        x.friends(0, 1, true);
        duePlan("0 and 1 friends", x, 0b100, 0b100, 0b001);
        x.rule(1, 1);
        // 0 and 1 can both be marked by 2 alone
        dueNoPlan("load 1", x, 0b011);
        x.friends(0, 1, false);
        duePlan("no longer friends", x, 0b010, 0b100, 0b001);
        x.rule(0, 2);
        dueNoPlan("each 2, load 1", x, 0b011);
        x.pupils(2);
        dueNoPlan("two pupils", x, 0b01);
        x.mark(0, 1, 50);
        x.staff(1, 50);
        dueNoPlan("marks are no matter", x, 0b01);
    }

    private static void lacks() {
        dueNoPlan("a new object", new PeerMarks(), 0b01);
        PeerMarks x = house(4, 2, 4);
        x.friends(3, 0, true);
        x.friends(3, 1, true);
        dueNoPlan("the last has two friends", x, 0b1000);
        // 4 * 7 = 28 is more than 8 * 3 + nothing, 4 * 6 = 24 is not
        dueNoPlan("load 3 for each 4", house(8, 4, 3), 0b01111111);
        dueNoPlan("each 4 of four", house(4, 4, 8), 0b0001);
        duePlan("each 4 of five", house(5, 4, 4), 0b11110, 0b11101, 0b11011, 0b10111, 0b01111);
    }

    private static void parts() {
        CHECK.due("two stars", house(4, 1, 4).parts(), 2);
        CHECK.due("four pairs", house(4, 1, 1).parts(), 4);
        CHECK.due("eight pairs", house(8, 1, 1).parts(), 8);
        CHECK.due("a marker who has nothing is in no part", house(4, 2, 4).parts(), 1);
        CHECK.due("a ring of three", house(3, 2, 2).parts(), 1);
        PeerMarks x = house(4, 2, 2);
        duePlan("crosswise", x, 0b0110, 0b1001, 0b1001, 0b0110);
        CHECK.due("crosswise", x.parts(), 2);
        // 0 and 1 mark 2 and 3, and the other way round
        x.friends(0, 1, true);
        x.friends(2, 3, true);
        CHECK.due("two halves", x.parts(), 2);
        duePlan("two halves", x, 0b1100, 0b1100, 0b0011, 0b0011);
    }

    private static void wrongInputs() {
        PeerMarks x = house(5, 2, 4);
        PeerMarks without = house(5, 2, 1);
        for (int k : WRONG) {
            CHECK.due("plan(" + k + ")", x.plan(k), PeerMarks.UNKNOWN);
            CHECK.due("shared(" + k + ")", x.shared(k), PeerMarks.UNKNOWN);
            CHECK.due("no plan: plan(" + k + ")", without.plan(k), PeerMarks.UNKNOWN);
            CHECK.due("no plan: shared(" + k + ")", without.shared(k), PeerMarks.UNKNOWN);
        }
    }

    public static void main(String[] args) {
        plans();
        plansFollowTheHouse();
        lacks();
        parts();
        wrongInputs();
        CHECK.end();
    }
}
