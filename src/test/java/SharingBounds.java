/** What promises 6 to 9 say of bounds: plan, shared, lack, parts. */
final class SharingBounds {
    private final Sentences doc;

    private SharingBounds(Sentences doc) {
        this.doc = doc;
    }

    static void play(Sentences doc) {
        SharingBounds bounds = new SharingBounds(doc);
        bounds.plan();
        bounds.shared();
        bounds.lack();
        bounds.parts();
    }

    private void duePlan(String house, PeerMarks x, int... sets) {
        for (int w = 0; w < sets.length; w++) {
            doc.due(house + ": plan(" + w + ")", x.plan(w), sets[w]);
        }
    }

    /** Two pupils who are friends: nobody may mark anything. */
    private static PeerMarks friendsAlone() {
        PeerMarks x = Houses.of(2, 1, 8);
        x.friends(0, 1, true);
        return x;
    }

    /** Five pupils with EACH 4: all must mark all, which a pair of friends can't. */
    private static PeerMarks oneFriendTooMany() {
        PeerMarks x = Houses.of(5, 4, 4);
        x.friends(2, 4, true);
        return x;
    }

    private void plan() {
        doc.promise(6, "The SET of a WORK in THE PLAN.");
        duePlan("the least house", Houses.of(2, 1, 1), 0b10, 0b01);
        duePlan("all mark all", Houses.of(5, 4, 4), 0b11110, 0b11101, 0b11011, 0b10111, 0b01111);
        duePlan("just room", Houses.of(4, 1, 1), 0b0010, 0b0001, 0b1000, 0b0100);
        duePlan("more room than works", Houses.of(8, 4, 8), 0b00011110, 0b00011101, 0b00011011, 0b00010111,
                0b00001111, 0b00001111, 0b00001111, 0b00001111);
        PeerMarks x = oneFriendTooMany();
        x.friends(2, 4, false);
        duePlan("no longer friends", x, 0b11110, 0b11101, 0b11011, 0b10111, 0b01111);
        x.mark(0, 1, 50);
        x.staff(0, 50);
        duePlan("marks are no matter", x, 0b11110);

        doc.promise(6, "UNKNOWN");
        for (int k : Houses.outside(0, 4)) {
            doc.refused(Houses::busy, "plan(" + k + ")", y -> y.plan(k), PeerMarks.UNKNOWN);
            doc.refused(Houses::lacking, "no plan: plan(" + k + ")", y -> y.plan(k), PeerMarks.UNKNOWN);
        }
        for (int n = 2; n <= 8; n++) {
            doc.due("plan(" + n + ") of " + n, Houses.of(n, 1, 1).plan(n), PeerMarks.UNKNOWN);
            doc.isTrue("plan(" + (n - 1) + ") of " + n, Houses.of(n, 1, 1).plan(n - 1) > 0);
        }

        doc.promise(6, "NOT: there is none.");
        for (int w = 0; w < 5; w++) {
            int k = w;
            doc.refused(SharingBounds::oneFriendTooMany, "one friend too many: plan(" + w + ")", y -> y.plan(k),
                    PeerMarks.NOT);
            doc.refused(Houses::lacking, "LOAD 1: plan(" + w + ")", y -> y.plan(k), PeerMarks.NOT);
        }
        doc.refused(PeerMarks::new, "a new object: plan(0)", y -> y.plan(0), PeerMarks.NOT);
        doc.refused(SharingBounds::friendsAlone, "friends alone: plan(1)", y -> y.plan(1), PeerMarks.NOT);
        doc.due("EACH 4 of four", Houses.of(4, 4, 8).plan(3), PeerMarks.NOT);
        doc.due("LOAD one too small", Houses.of(8, 4, 3).plan(0), PeerMarks.NOT);
        doc.isTrue("LOAD just enough", Houses.of(8, 4, 4).plan(0) > 0);
    }

    private void dueShared(String house, PeerMarks x, int... many) {
        for (int p = 0; p < many.length; p++) {
            doc.due(house + ": shared(" + p + ")", x.shared(p), many[p]);
        }
    }

    private void shared() {
        doc.promise(7, "How many WORKS a PUPIL has in THE PLAN.");
        dueShared("the least house", Houses.of(2, 1, 1), 1, 1);
        dueShared("all mark all", Houses.of(5, 4, 4), 4, 4, 4, 4, 4);
        dueShared("more room than works", Houses.of(8, 4, 8), 7, 7, 7, 7, 4, 0, 0, 0);
        dueShared("one for each", Houses.of(8, 1, 1), 1, 1, 1, 1, 1, 1, 1, 1);
        dueShared("all by the first, its own by the next", Houses.of(8, 1, 7), 7, 1, 0, 0, 0, 0, 0, 0);

        doc.promise(7, "UNKNOWN");
        for (int k : Houses.outside(0, 4)) {
            doc.refused(Houses::busy, "shared(" + k + ")", x -> x.shared(k), PeerMarks.UNKNOWN);
            doc.refused(Houses::lacking, "no plan: shared(" + k + ")", x -> x.shared(k), PeerMarks.UNKNOWN);
        }
        for (int n = 2; n <= 8; n++) {
            doc.due("shared(" + n + ") of " + n, Houses.of(n, 1, 1).shared(n), PeerMarks.UNKNOWN);
            doc.due("shared(" + (n - 1) + ") of " + n, Houses.of(n, 1, 1).shared(n - 1), 1);
        }

        doc.promise(7, "NOT: there is none.");
        for (int p = 0; p < 5; p++) {
            int k = p;
            doc.refused(SharingBounds::oneFriendTooMany, "one friend too many: shared(" + p + ")", x -> x.shared(k),
                    PeerMarks.NOT);
        }
        doc.refused(PeerMarks::new, "a new object: shared(0)", x -> x.shared(0), PeerMarks.NOT);
        doc.refused(SharingBounds::friendsAlone, "friends alone: shared(1)", x -> x.shared(1), PeerMarks.NOT);
    }

    private void lack() {
        doc.promise(8, "THE LACK");
        doc.due("a new object", new PeerMarks().lack(), 0b01);
        doc.due("friends alone", friendsAlone().lack(), 0b01);
        doc.due("one friend too many", oneFriendTooMany().lack(), 0b00100);
        doc.due("EACH 4 of four", Houses.of(4, 4, 8).lack(), 0b0001);
        doc.due("EACH 2, LOAD 1, of three", Houses.of(3, 2, 1).lack(), 0b011);
        PeerMarks x = Houses.of(8, 1, 8);
        for (int q = 0; q < 7; q++) {
            x.friends(7, q, true);
        }
        doc.due("the last work alone", x.lack(), 0b10000000);

        doc.promise(8, "0: there is a PLAN.");
        doc.due("the least house", Houses.of(2, 1, 1).lack(), 0);
        doc.due("all mark all", Houses.of(5, 4, 4).lack(), 0);
        doc.due("LOAD just enough", Houses.of(8, 4, 4).lack(), 0);
        x.friends(7, 0, false);
        doc.due("the last work has its one marker", x.lack(), 0);
        PeerMarks y = oneFriendTooMany();
        y.rule(0, 3);
        doc.due("EACH is less now", y.lack(), 0);
    }

    private void parts() {
        doc.promise(9, "Into how many parts WORKS and markers that are in THE PLAN hang together by it");
        doc.due("all in one", Houses.of(8, 4, 8).parts(), 1);
        doc.due("a marker without a work is in none", Houses.of(4, 2, 4).parts(), 1);
        doc.due("(it has none)", Houses.of(4, 2, 4).shared(3), 0);
        doc.due("one for each", Houses.of(8, 1, 1).parts(), 8);
        doc.due("the first one's works, and its own", Houses.of(8, 1, 8).parts(), 2);
        PeerMarks x = Houses.of(8, 1, 1);
        x.mark(0, 2, 50);
        x.mark(0, 3, 50);
        doc.due("marks tie nothing", x.parts(), 8);

        doc.promise(9, "(a marker as in section 3)");
        doc.due("0 marks 1 and 1 marks 0", Houses.of(2, 1, 1).parts(), 2);
        doc.due("work 0 by 1 and 2, the others by 0 and 1 or 2", Houses.of(3, 2, 2).parts(), 1);

        doc.promise(9, "NOT: there is none.");
        doc.refused(PeerMarks::new, "a new object", PeerMarks::parts, PeerMarks.NOT);
        doc.refused(SharingBounds::friendsAlone, "friends alone", PeerMarks::parts, PeerMarks.NOT);
        doc.refused(SharingBounds::oneFriendTooMany, "one friend too many", PeerMarks::parts, PeerMarks.NOT);
        doc.refused(Houses::lacking, "LOAD 1", PeerMarks::parts, PeerMarks.NOT);
    }
}
