import java.util.function.Supplier;

/** What promises 1 to 5 say of bounds: a new object, pupils, friends, rule, may. */
final class HouseBounds {
    private static final int[] LEAST_RULE = {1, 1, 0};
    private static final int[] GREATEST_RULE = {4, 8, 100};
    private static final int[] RULE_AT_FIRST = {2, 4, 30};

    private final Sentences doc;

    private HouseBounds(Sentences doc) {
        this.doc = doc;
    }

    static void play(Sentences doc) {
        HouseBounds bounds = new HouseBounds(doc);
        bounds.newObject();
        bounds.pupils();
        bounds.pupilsRefused();
        bounds.friends();
        bounds.friendsRefused();
        bounds.rule();
        bounds.ruleRefused();
        bounds.may();
    }

    private void newObject() {
        doc.promise(1, "2 PUPILS");
        doc.due("count(0)", new PeerMarks().count(0), 2);
        doc.due("pupils(2)", new PeerMarks().pupils(2), 2);
        doc.due("may(1)", new PeerMarks().may(1), 0b01);
        doc.due("may(2)", new PeerMarks().may(2), PeerMarks.UNKNOWN);

        doc.promise(1, "no FRIENDS");
        doc.due("count(6)", new PeerMarks().count(6), 0);
        doc.due("friends(0, 1, false)", new PeerMarks().friends(0, 1, false), 0);
        doc.due("friends(1, 0, true)", new PeerMarks().friends(1, 0, true), 0);

        doc.promise(1, "no MARKS");
        doc.due("count(1)", new PeerMarks().count(1), 0);
        doc.due("mark(0, 1, 5)", new PeerMarks().mark(0, 1, 5), PeerMarks.NONE);
        doc.due("mark(1, 0, -1)", new PeerMarks().mark(1, 0, -1), PeerMarks.NONE);
        doc.due("count(2)", new PeerMarks().count(2), 0);
        doc.due("staff(0, 5)", new PeerMarks().staff(0, 5), PeerMarks.NONE);
        doc.due("staff(1, -1)", new PeerMarks().staff(1, -1), PeerMarks.NONE);
        doc.due("count(3)", new PeerMarks().count(3), 0);

        doc.promise(1, "the numbers as told");
        for (int what = 0; what < 3; what++) {
            int v = LEAST_RULE[what];
            doc.due("rule(" + what + ", " + v + ")", new PeerMarks().rule(what, v), RULE_AT_FIRST[what]);
        }
        String atFirst = Look.at(new PeerMarks());
        PeerMarks used = full();
        doc.isTrue("an object made later is as new", Look.at(new PeerMarks()).equals(atFirst));
        doc.due("and the one before keeps its own", used.count(1), 56);
    }

    private static PeerMarks full() {
        PeerMarks x = Houses.of(8);
        Houses.befriendAll(x, 8);
        Houses.markAll(x, 8);
        for (int w = 0; w < 8; w++) {
            x.staff(w, 90 - w);
        }
        return Houses.asked(x);
    }

    private void pupils() {
        doc.promise(2, "n PUPILS");
        for (int n = 2; n <= 8; n++) {
            PeerMarks x = Houses.of(n);
            doc.due("count(0) of " + n, x.count(0), n);
            doc.due("the last of " + n, x.may(n - 1), (1 << n - 1) - 1);
            doc.due("none behind the last of " + n, x.may(n), PeerMarks.UNKNOWN);
        }

        doc.promise(2, "no FRIENDS");
        PeerMarks x = full();
        x.pupils(8);
        doc.due("count(6)", x.count(6), 0);
        for (int p = 0; p < 8; p++) {
            doc.due("may(" + p + ")", x.may(p), 255 - (1 << p));
            doc.due("friends with the next", x.friends(p, (p + 1) % 8, false), 0);
        }

        doc.promise(2, "no MARKS");
        doc.due("count(1)", x.count(1), 0);
        doc.due("count(3)", x.count(3), 0);
        for (int p = 0; p < 8; p++) {
            for (int w = 0; w < 8; w++) {
                if (p != w) {
                    doc.due("mark(" + p + ", " + w + ", -1)", x.mark(p, w, -1), PeerMarks.NONE);
                }
            }
        }

        doc.promise(2, "no STAFF marks");
        doc.due("count(2)", x.count(2), 0);
        for (int w = 0; w < 8; w++) {
            doc.due("staff(" + w + ", -1)", x.staff(w, -1), PeerMarks.NONE);
            doc.due("worth(" + w + ", 0)", x.worth(w, 0), PeerMarks.NOT);
        }
        PeerMarks fewer = full();
        fewer.pupils(2);
        doc.dueAlike("nothing is left in a house that shrank", fewer, new PeerMarks());
        PeerMarks again = full();
        again.pupils(2);
        again.pupils(8);
        doc.dueAlike("nothing comes back in a house that grew again", again, Houses.of(8));
        PeerMarks asMany = full();
        asMany.pupils(8);
        doc.dueAlike("nothing is left in a house of as many", asMany, Houses.of(8));

        doc.promise(2, "(other numbers stay)");
        for (int[] rules : new int[][] {LEAST_RULE, GREATEST_RULE}) {
            PeerMarks y = new PeerMarks();
            for (int what = 0; what < 3; what++) {
                y.rule(what, rules[what]);
            }
            y.pupils(8);
            y.pupils(2);
            for (int what = 0; what < 3; what++) {
                doc.due("rule(" + what + ", ..)", y.rule(what, 1), rules[what]);
            }
        }

        doc.promise(2, "how many there were.");
        PeerMarks z = new PeerMarks();
        int were = 2;
        for (int n : new int[] {2, 8, 8, 2, 3, 7, 4, 6, 5}) {
            doc.due("pupils(" + n + ")", z.pupils(n), were);
            were = n;
        }
    }

    private void pupilsRefused() {
        doc.promise(2, "OUTSIDE.");
        for (int n : Houses.outside(2, 8)) {
            doc.refused(Houses::busy, "pupils(" + n + ")", x -> x.pupils(n), PeerMarks.OUTSIDE);
        }
        doc.refused(HouseBounds::full, "full: pupils(9)", x -> x.pupils(9), PeerMarks.OUTSIDE);
        doc.refused(HouseBounds::full, "full: pupils(1)", x -> x.pupils(1), PeerMarks.OUTSIDE);
    }

    private void friends() {
        doc.promise(3, "Two PUPILS are FRIENDS from now on, or not");
        PeerMarks x = Houses.of(8);
        x.friends(0, 7, true);
        doc.due("may(0)", x.may(0), 0b01111110);
        doc.due("may(7)", x.may(7), 0b01111110);
        doc.due("may(1)", x.may(1), 0b11111101);
        x.friends(7, 0, true);
        doc.due("twice is once", x.count(6), 1);
        x.friends(7, 0, false);
        doc.due("may(0) again", x.may(0), 0b11111110);
        doc.due("may(7) again", x.may(7), 0b01111111);
        x.friends(0, 7, false);
        doc.due("no pair", x.count(6), 0);
        Houses.befriendAll(x, 8);
        doc.due("all pairs", x.count(6), 28);
        x.friends(3, 4, false);
        doc.due("all but one", x.count(6), 27);
        doc.due("may(3)", x.may(3), 0b00010000);
        doc.due("may(4)", x.may(4), 0b00001000);
        PeerMarks asked = Houses.of(4);
        doc.due("plan(0) before", asked.plan(0), 0b0110);
        asked.friends(0, 1, true);
        doc.due("plan(0) from now on", asked.plan(0), 0b1100);
        doc.due("next(0) from now on", asked.next(0), 2);
        asked.friends(1, 0, false);
        doc.due("plan(0) again", asked.plan(0), 0b0110);

        doc.promise(3, "1 if they were, 0.");
        PeerMarks y = new PeerMarks();
        doc.due("not, now on", y.friends(0, 1, true), 0);
        doc.due("on, still on", y.friends(0, 1, true), 1);
        doc.due("on, told the other way", y.friends(1, 0, true), 1);
        doc.due("on, now not", y.friends(1, 0, false), 1);
        doc.due("not, still not", y.friends(0, 1, false), 0);
        doc.due("not, told the other way", y.friends(1, 0, false), 0);
    }

    private void friendsRefused() {
        doc.promise(3, "UNKNOWN");
        for (boolean on : new boolean[] {true, false}) {
            for (int k : Houses.outside(0, 4)) {
                String rest = ", " + on + ")";
                doc.refused(Houses::busy, "friends(" + k + ", 0" + rest, x -> x.friends(k, 0, on), PeerMarks.UNKNOWN);
                doc.refused(Houses::busy, "friends(4, " + k + rest, x -> x.friends(4, k, on), PeerMarks.UNKNOWN);
                doc.refused(Houses::busy, "one that there is not: friends(" + k + ", " + k + rest,
                        x -> x.friends(k, k, on), PeerMarks.UNKNOWN);
            }
        }

        doc.promise(3, "NOT: they are one.");
        for (int p = 0; p < 5; p++) {
            int k = p;
            doc.refused(Houses::busy, "friends(" + p + ", " + p + ", true)", x -> x.friends(k, k, true), PeerMarks.NOT);
            doc.refused(Houses::busy, "friends(" + p + ", " + p + ", false)", x -> x.friends(k, k, false), PeerMarks.NOT);
        }
    }

    private void rule() {
        doc.promise(4, "What = 0 EACH, 1 LOAD, 2 WIDE becomes v");
        PeerMarks each = Houses.of(8);
        for (int v = 1; v <= 4; v++) {
            each.rule(0, v);
            doc.due("markers of a work with EACH " + v, Integer.bitCount(each.plan(7)), v);
        }
        PeerMarks load = Houses.of(8, 1, 1);
        for (int v = 1; v <= 7; v++) {
            load.rule(1, v);
            doc.due("works of pupil 0 with LOAD " + v, load.shared(0), v);
        }
        load.rule(1, 8);
        doc.due("works of pupil 0 with LOAD 8", load.shared(0), 7);
        PeerMarks wide = Houses.of(3);
        wide.mark(1, 0, 0);
        wide.mark(2, 0, 100);
        wide.rule(2, 99);
        doc.due("100 is above 99", wide.count(5), 1);
        wide.rule(2, 100);
        doc.due("100 is not above 100", wide.count(5), 0);
        wide.mark(1, 0, 99);
        wide.rule(2, 0);
        doc.due("1 is above 0", wide.count(5), 1);

        doc.promise(4, "what it was.");
        for (int what = 0; what < 3; what++) {
            PeerMarks x = new PeerMarks();
            int was = RULE_AT_FIRST[what];
            for (int v = LEAST_RULE[what]; v <= GREATEST_RULE[what]; v++) {
                doc.due("rule(" + what + ", " + v + ")", x.rule(what, v), was);
                was = v;
            }
            doc.due("rule(" + what + ", " + was + ") again", x.rule(what, was), was);
            for (int other = 0; other < 3; other++) {
                if (other != what) {
                    doc.due("the others stay", x.rule(other, 1), RULE_AT_FIRST[other]);
                }
            }
        }
    }

    private void ruleRefused() {
        doc.promise(4, "OUTSIDE.");
        for (int what = 0; what < 3; what++) {
            int k = what;
            for (int v : Houses.outside(LEAST_RULE[what], GREATEST_RULE[what])) {
                doc.refused(Houses::busy, "rule(" + what + ", " + v + ")", x -> x.rule(k, v), PeerMarks.OUTSIDE);
            }
        }
        for (int what : Houses.outside(0, 2)) {
            for (int v : new int[] {0, 1, 4, 8, 100, 101}) {
                doc.refused(Houses::busy, "rule(" + what + ", " + v + ")", x -> x.rule(what, v), PeerMarks.OUTSIDE);
            }
        }
    }

    private void may() {
        doc.promise(5, "The SET of WORKS that a PUPIL MAY mark.");
        PeerMarks two = new PeerMarks();
        doc.due("of two: may(0)", two.may(0), 0b10);
        two.friends(0, 1, true);
        doc.due("of two who are friends: may(0)", two.may(0), 0);
        doc.due("of two who are friends: may(1)", two.may(1), 0);
        PeerMarks eight = Houses.of(8);
        for (int p = 0; p < 8; p++) {
            doc.due("no friends: may(" + p + ")", eight.may(p), 255 - (1 << p));
        }
        Houses.befriendAll(eight, 8);
        for (int p = 0; p < 8; p++) {
            doc.due("all friends: may(" + p + ")", eight.may(p), 0);
        }
        PeerMarks marked = Houses.of(3);
        marked.mark(0, 1, 5);
        marked.rule(1, 1);
        doc.due("marks and LOAD are no bar", marked.may(0), 0b110);

        doc.promise(5, "UNKNOWN.");
        for (int n = 2; n <= 8; n++) {
            int size = n;
            Supplier<PeerMarks> house = () -> Houses.of(size);
            doc.refused(house, n + " pupils: may(" + n + ")", x -> x.may(size), PeerMarks.UNKNOWN);
            doc.refused(house, n + " pupils: may(-1)", x -> x.may(-1), PeerMarks.UNKNOWN);
        }
        for (int k : Houses.outside(0, 4)) {
            doc.refused(Houses::busy, "may(" + k + ")", x -> x.may(k), PeerMarks.UNKNOWN);
        }
    }
}
