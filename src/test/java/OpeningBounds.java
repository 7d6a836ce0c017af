import java.util.List;
import java.util.function.ToLongFunction;

/** What stands before the document's sections: what the house is for, and for how many calls an object is. */
final class OpeningBounds {
    private static final int CALLS = 512;

    private final Sentences doc;

    private OpeningBounds(Sentences doc) {
        this.doc = doc;
    }

    static void play(Sentences doc) {
        OpeningBounds bounds = new OpeningBounds(doc);
        bounds.sharedOut();
        bounds.harshAndKind();
        bounds.quarrels();
        bounds.howManyCalls();
    }

    private void sharedOut() {
        doc.opening("A marking house: pupils mark each other's works");
        PeerMarks x = Houses.of(3);
        doc.due("another's", x.mark(0, 1, 50), PeerMarks.NONE);
        doc.due("one's own", x.mark(1, 1, 50), PeerMarks.NOT);
        doc.due("one mark", x.count(1), 1);

        doc.opening("who marks which is shared out, never one's own nor a friend's");
        for (int each = 1; each <= 4; each++) {
            PeerMarks pairs = Houses.of(6, each, 4);
            for (int p = 0; p < 6; p += 2) {
                pairs.friends(p, p + 1, true);
            }
            for (int w = 0; w < 6; w++) {
                int pair = 0b11 << (w & ~1);
                doc.due("EACH " + each + ": markers of work " + w, Integer.bitCount(pairs.plan(w)), each);
                doc.due("EACH " + each + ": work " + w + " by itself or a friend", pairs.plan(w) & pair, 0);
            }
        }

        doc.opening("or it is told which works can't have their markers");
        x.friends(0, 1, true);
        doc.due("work 0 has but pupil 2", x.lack(), 0b001);
        doc.due("there is no plan", x.plan(0), PeerMarks.NOT);
        x.rule(0, 1);
        doc.due("one is enough now", x.lack(), 0);
        doc.due("there is a plan", x.plan(0), 0b100);
    }

    private void dueLean(String house, PeerMarks x, int p, long top, long lower) {
        doc.dueFraction(house + ": lean of " + p, x.lean(p, 0), x.lean(p, 1), top, lower);
    }

    private void harshAndKind() {
        doc.opening("harsh and kind markers told exactly by what they have in common");
        PeerMarks x = Houses.of(4);
        x.mark(0, 2, 50);
        x.mark(0, 3, 61);
        x.mark(1, 2, 60);
        dueLean("one work in common", x, 0, -5, 1);
        x.mark(1, 3, 70);
        dueLean("two works in common", x, 0, -19, 4);
        dueLean("two works in common", x, 1, 19, 4);
        x.mark(2, 0, 100);
        dueLean("nothing in common", x, 2, 0, 1);
        dueLean("as before", x, 0, -19, 4);

        doc.opening("held to what the staff marked");
        x.staff(2, 40);
        dueLean("held to 40 for work 2", x, 0, 41, 4);
        dueLean("held to 40 for work 2", x, 1, 79, 4);
        doc.dueFraction("worth of work 2", x.worth(2, 0), x.worth(2, 1), 40, 1);
        doc.dueFraction("worth of work 3", x.worth(3, 0), x.worth(3, 1), 101, 2);
    }

    private void quarrels() {
        doc.opening("the order with the least quarrel");
        PeerMarks x = Houses.of(5);
        for (int p = 2; p < 5; p++) {
            x.mark(p, 0, p < 4 ? 60 : 80);
            x.mark(p, 1, p < 4 ? 70 : 10);
        }
        doc.due("two would have work 1 ahead", x.order(0), 1);
        doc.due("work 0 behind it", x.order(1), 0);
        doc.due("one would not", x.quarrel(), 1);

        doc.opening("what one marker moves");
        doc.due("one against one, without 2: the lesser number is ahead", x.moves(2), 1);
        doc.due("nothing, without 4", x.moves(4), 0);

        doc.opening("works that are appealed");
        doc.due("from 60 to 80", x.spread(0), 20);
        doc.due("from 10 to 70", x.spread(1), 60);
        doc.due("one of them", x.count(5), 1);

        doc.opening("and who marks them next.");
        doc.due("the one who has not", x.next(1), 0);
    }

    /** A house of three that is asked again and again, with as many calls as are told. */
    private static PeerMarks after(int calls) {
        PeerMarks x = Houses.of(3);
        x.rule(0, 1);
        x.mark(0, 2, 45);
        for (int call = 3; call < calls; call++) {
            x.mark(0, 1, call == calls - 1 ? 80 : call % 101);
        }
        return x;
    }

    private void howManyCalls() {
        List<ToLongFunction<PeerMarks>> calls = List.of(
                x -> x.pupils(5), x -> x.friends(0, 1, true), x -> x.rule(2, 7), x -> x.may(1), x -> x.plan(2),
                x -> x.shared(0), PeerMarks::lack, PeerMarks::parts, x -> x.mark(0, 1, 3), x -> x.staff(1, 9),
                x -> x.count(1), x -> x.piece(2, 0), x -> x.worth(1, 0), x -> x.lean(0, 1), x -> x.left(0, 2, 0),
                x -> x.order(0), PeerMarks::quarrel, x -> x.turned(0), x -> x.moves(0), x -> x.spread(1),
                x -> x.next(2), PeerMarks::digest);
        doc.opening("An object is used for at most 512 calls after it has been made");
        for (int k = 0; k < calls.size(); k++) {
            ToLongFunction<PeerMarks> call = calls.get(k);
            doc.due("the 512th, of kind " + k, call.applyAsLong(after(CALLS - 1)), call.applyAsLong(after(4)));
        }

        doc.opening("what later calls answer is free.");
        String atFirst = Look.at(new PeerMarks());
        PeerMarks worn = after(3 * CALLS);
        for (ToLongFunction<PeerMarks> call : calls) {
            call.applyAsLong(worn);
        }
        doc.isTrue("they end, and touch no other object", Look.at(new PeerMarks()).equals(atFirst));
    }
}
