/** Promises 1 to 5: a new object, pupils, friends, rule, may. */
final class HouseTest {
    private static final Check CHECK = new Check("HouseTest");
    private static final int[] WRONG = {Integer.MIN_VALUE, -32, -1, 8, 32, Integer.MAX_VALUE};

    private static void newObject() {
        PeerMarks x = new PeerMarks();
        CHECK.due("new: count(0)", x.count(0), 2);
        for (int what = 1; what < 7; what++) {
            CHECK.due("new: count(" + what + ")", x.count(what), 0);
        }
        CHECK.due("new: EACH", x.rule(0, 2), 2);
        CHECK.due("new: LOAD", x.rule(1, 4), 4);
        CHECK.due("new: WIDE", x.rule(2, 30), 30);
        CHECK.due("new: may(0)", x.may(0), 0b10);
        CHECK.due("new: may(1)", x.may(1), 0b01);
        CHECK.due("new: lack()", new PeerMarks().lack(), 1);
        CHECK.due("new: plan(1)", new PeerMarks().plan(1), PeerMarks.NOT);
        CHECK.due("new: order(1)", new PeerMarks().order(1), 1);
        CHECK.due("new: quarrel()", new PeerMarks().quarrel(), 0);
        CHECK.due("new: moves(1)", new PeerMarks().moves(1), 0);
        CHECK.due("new: piece(0, 1)", new PeerMarks().piece(0, 1), PeerMarks.NONE);
        CHECK.due("new: worth(0, 0)", x.worth(0, 0), PeerMarks.NOT);
        CHECK.due("new: mark(0, 1, -1)", x.mark(0, 1, -1), PeerMarks.NONE);
        CHECK.due("new: staff(1, -1)", x.staff(1, -1), PeerMarks.NONE);
    }

    private static void objectsStandApart() {
        String before = Look.at(new PeerMarks());
        PeerMarks x = new PeerMarks();
        PeerMarks y = new PeerMarks();
        x.pupils(5);
        x.rule(0, 1);
        x.mark(0, 1, 7);
        CHECK.isTrue("another object stays as it was", before.equals(Look.at(y)));
    }

    private static PeerMarks eight() {
        PeerMarks x = new PeerMarks();
        CHECK.due("pupils(8)", x.pupils(8), 2);
        x.friends(0, 7, true);
        x.mark(0, 7, 50);
        x.mark(3, 2, 0);
        x.staff(7, 60);
        x.rule(0, 3);
        x.rule(1, 7);
        x.rule(2, 0);
        return x;
    }

    private static void pupils() {
        PeerMarks x = eight();
        for (int n : new int[] {Integer.MIN_VALUE, -1, 0, 1, 9, Integer.MAX_VALUE}) {
            CHECK.due("pupils(" + n + ")", x.pupils(n), PeerMarks.OUTSIDE);
        }
        CHECK.isTrue("a refused pupils changes nothing", Look.at(eight()).equals(Look.at(x)));
        CHECK.due("pupils(2)", x.pupils(2), 8);
        CHECK.due("pupils(8) again", x.pupils(8), 2);
        for (int what : new int[] {1, 2, 3, 6}) {
            CHECK.due("after pupils: count(" + what + ")", x.count(what), 0);
        }
        CHECK.due("after pupils: may(0)", x.may(0), 0b11111110);
        CHECK.due("after pupils: worth(7, 0)", x.worth(7, 0), PeerMarks.NOT);
        CHECK.due("after pupils: EACH", x.rule(0, 1), 3);
        CHECK.due("after pupils: LOAD", x.rule(1, 1), 7);
        CHECK.due("after pupils: WIDE", x.rule(2, 1), 0);
    }

    private static void asManyPupilsAgain() {
        PeerMarks x = new PeerMarks();
        x.friends(0, 1, true);
        x.mark(0, 1, 3);
        x.staff(0, 4);
        CHECK.due("pupils(2) with two", x.pupils(2), 2);
        CHECK.due("as many: count(1)", x.count(1), 0);
        CHECK.due("as many: count(2)", x.count(2), 0);
        CHECK.due("as many: count(6)", x.count(6), 0);
    }

    private static void friends() {
        PeerMarks x = new PeerMarks();
        x.pupils(4);
        CHECK.due("friends(1, 3, true)", x.friends(1, 3, true), 0);
        CHECK.due("friends(3, 1, true)", x.friends(3, 1, true), 1);
        CHECK.due("one pair", x.count(6), 1);
        CHECK.due("friends(2, 1, true)", x.friends(2, 1, true), 0);
        CHECK.due("two pairs", x.count(6), 2);
        CHECK.due("friends(3, 1, false)", x.friends(3, 1, false), 1);
        CHECK.due("friends(1, 3, false)", x.friends(1, 3, false), 0);
        CHECK.due("one pair left", x.count(6), 1);
        CHECK.due("may(1)", x.may(1), 0b1001);
    }

    private static PeerMarks twoFriends() {
        PeerMarks x = new PeerMarks();
        x.pupils(4);
        x.friends(2, 1, true);
        return x;
    }

    private static void wrongFriends() {
        PeerMarks x = twoFriends();
        CHECK.due("friends(0, 0, true)", x.friends(0, 0, true), PeerMarks.NOT);
        CHECK.due("friends(3, 3, false)", x.friends(3, 3, false), PeerMarks.NOT);
        CHECK.due("friends(4, 4, true)", x.friends(4, 4, true), PeerMarks.UNKNOWN);
        for (int k : WRONG) {
            CHECK.due("friends(" + k + ", 0, true)", x.friends(k, 0, true), PeerMarks.UNKNOWN);
            CHECK.due("friends(0, " + k + ", true)", x.friends(0, k, true), PeerMarks.UNKNOWN);
        }
        CHECK.isTrue("refused friends change nothing", Look.at(twoFriends()).equals(Look.at(x)));
    }

    private static void rule() {
        PeerMarks x = new PeerMarks();
        int[] least = {1, 1, 0};
        int[] greatest = {4, 8, 100};
        int[] atFirst = {2, 4, 30};
        for (int what = 0; what < 3; what++) {
            String call = "rule(" + what + ", ..) ";
            CHECK.due(call + "to its least", x.rule(what, least[what]), atFirst[what]);
            CHECK.due(call + "to its greatest", x.rule(what, greatest[what]), least[what]);
            CHECK.due(call + "below", x.rule(what, least[what] - 1), PeerMarks.OUTSIDE);
            CHECK.due(call + "above", x.rule(what, greatest[what] + 1), PeerMarks.OUTSIDE);
            CHECK.due(call + "far below", x.rule(what, Integer.MIN_VALUE), PeerMarks.OUTSIDE);
            CHECK.due(call + "far above", x.rule(what, Integer.MAX_VALUE), PeerMarks.OUTSIDE);
            CHECK.due(call + "stayed", x.rule(what, atFirst[what]), greatest[what]);
        }
        for (int what : new int[] {Integer.MIN_VALUE, -1, 3, Integer.MAX_VALUE}) {
            CHECK.due("rule(" + what + ", 1)", x.rule(what, 1), PeerMarks.OUTSIDE);
        }
    }

    private static void rulesOutliveFriendsAndMarks() {
        PeerMarks x = new PeerMarks();
        x.pupils(3);
        x.mark(0, 1, 9);
        x.friends(0, 2, true);
        x.rule(2, 8);
        CHECK.due("rule keeps marks", x.count(1), 1);
        CHECK.due("rule keeps friends", x.count(6), 1);
    }

    private static void may() {
        PeerMarks x = new PeerMarks();
        x.pupils(8);
        CHECK.due("may(7)", x.may(7), 0b01111111);
        x.friends(7, 0, true);
        x.friends(3, 7, true);
        CHECK.due("may(7) with friends", x.may(7), 0b01110110);
        CHECK.due("may(0)", x.may(0), 0b01111110);
        CHECK.due("may(3)", x.may(3), 0b01110111);
        x.mark(7, 1, 4);
        CHECK.due("a mark is no bar to may", x.may(7), 0b01110110);
        for (int k : WRONG) {
            CHECK.due("may(" + k + ")", x.may(k), PeerMarks.UNKNOWN);
        }
    }

    public static void main(String[] args) {
        newObject();
        objectsStandApart();
        pupils();
        asManyPupilsAgain();
        friends();
        wrongFriends();
        rule();
        rulesOutliveFriendsAndMarks();
        may();
        CHECK.end();
    }
}
