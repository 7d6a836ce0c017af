import java.util.ArrayList;
import java.util.List;
import java.util.function.Supplier;
import java.util.function.ToLongFunction;

/** What the section "Terms" says first of all, of numbers and refusals, and its section 1, of the house. */
final class TermsBounds {
    private static final int UNKNOWN = PeerMarks.UNKNOWN, OUTSIDE = PeerMarks.OUTSIDE, NOT = PeerMarks.NOT;

    private final Sentences doc;

    private TermsBounds(Sentences doc) {
        this.doc = doc;
    }

    static void play(Sentences doc) {
        TermsBounds bounds = new TermsBounds(doc);
        bounds.numbers();
        bounds.refusals();
        bounds.refusedChangesNothing();
        bounds.house();
        bounds.rules();
        bounds.plans();
        bounds.thePlan();
        bounds.theLack();
    }

    private void numbers() {
        doc.terms("Words in capitals are told where they come first. All numbers are whole; what has a number has it from 0 on.");
        PeerMarks x = Houses.of(3);
        x.mark(0, 1, 50);
        doc.due("the first pupil", x.may(0), 0b110);
        doc.due("none ahead of it", x.may(-1), UNKNOWN);
        doc.due("the first work", x.next(0), 1);
        doc.due("the first place", x.order(0), 0);
        doc.due("none ahead of it", x.order(-1), OUTSIDE);
        doc.due("the first piece", x.piece(1, 0), 0);
        doc.due("the first count", x.count(0), 3);
        doc.due("the first rule", x.rule(0, 1), 2);

        doc.terms("A SET of pupils or works is a whole number, bit k for k.");
        doc.due("all works but the first", Houses.of(8).may(0), 0b11111110);
        doc.due("all works but the last", Houses.of(8).may(7), 0b01111111);
        doc.due("pupil 1 alone", Houses.of(8, 1, 1).plan(0), 0b00000010);
        doc.due("pupil 6 alone", Houses.of(8, 1, 1).plan(7), 0b01000000);
        PeerMarks lonely = Houses.of(8, 1, 8);
        for (int q = 0; q < 7; q++) {
            lonely.friends(q, 7, true);
        }
        doc.due("no works", lonely.may(7), 0);
        doc.due("work 7 alone", lonely.lack(), 0b10000000);

        doc.terms("NONE is -1.");
        doc.due("NONE", PeerMarks.NONE, -1);
        doc.due("mark", new PeerMarks().mark(0, 1, 5), -1);
        doc.due("staff", new PeerMarks().staff(0, 5), -1);
        doc.due("piece", new PeerMarks().piece(0, 0), -1);
        PeerMarks all = new PeerMarks();
        all.friends(0, 1, true);
        doc.due("next", all.next(0), -1);
    }

    private void refusals() {
        doc.terms("REFUSALS, of several the first in this order: UNKNOWN (a PUPIL, WORK that there is not), "
                + "OUTSIDE (another number out of its bounds), NOT (not now, as told).");
        doc.due("UNKNOWN", UNKNOWN, -1001);
        doc.due("OUTSIDE", OUTSIDE, -1002);
        doc.due("NOT", NOT, -1003);
        for (int k : new int[] {-1, 5}) {
            doc.due("UNKNOWN and NOT: friends", Houses.busy().friends(k, k, true), UNKNOWN);
            doc.due("UNKNOWN and NOT: plan", Houses.lacking().plan(k), UNKNOWN);
            doc.due("UNKNOWN and NOT: shared", Houses.lacking().shared(k), UNKNOWN);
            doc.due("UNKNOWN and NOT: mark", Houses.busy().mark(k, k, 5), UNKNOWN);
            for (int v : new int[] {-2, 101}) {
                doc.due("UNKNOWN and OUTSIDE: mark of none", Houses.busy().mark(k, 1, v), UNKNOWN);
                doc.due("UNKNOWN and OUTSIDE: mark for none", Houses.busy().mark(1, k, v), UNKNOWN);
                doc.due("all three: mark", Houses.busy().mark(k, k, v), UNKNOWN);
                doc.due("OUTSIDE and NOT: mark", Houses.busy().mark(1, 1, v), OUTSIDE);
                doc.due("UNKNOWN and OUTSIDE: staff", Houses.busy().staff(k, v), UNKNOWN);
            }
            for (int what : new int[] {-1, 2}) {
                doc.due("UNKNOWN and OUTSIDE: piece", Houses.busy().piece(k, what), UNKNOWN);
                doc.due("UNKNOWN and OUTSIDE: worth", Houses.busy().worth(k, what), UNKNOWN);
                doc.due("UNKNOWN and OUTSIDE: lean", Houses.busy().lean(k, what), UNKNOWN);
                doc.due("all three: left of none", Houses.busy().left(k, 1, what), UNKNOWN);
                doc.due("all three: left for none", Houses.busy().left(1, k, what), UNKNOWN);
                doc.due("OUTSIDE and NOT: worth", new PeerMarks().worth(0, what), OUTSIDE);
                doc.due("OUTSIDE and NOT: lean", new PeerMarks().lean(0, what), OUTSIDE);
                doc.due("OUTSIDE and NOT: left", new PeerMarks().left(0, 1, what), OUTSIDE);
                doc.due("OUTSIDE and NOT: worth, large", Houses.large().worth(1, what), OUTSIDE);
                doc.due("OUTSIDE and NOT: lean, large", Houses.large().lean(0, what), OUTSIDE);
                doc.due("OUTSIDE and NOT: left, large", Houses.large().left(0, 1, what), OUTSIDE);
            }
        }
    }

    /** All ways in which a call can be refused in a house without a plan, at once. */
    private static List<ToLongFunction<PeerMarks>> allRefusals() {
        List<ToLongFunction<PeerMarks>> calls = new ArrayList<>();
        for (int k : new int[] {-1, 8}) {
            calls.add(x -> x.friends(k, 0, true));
            calls.add(x -> x.friends(0, k, false));
            calls.add(x -> x.may(k));
            calls.add(x -> x.plan(k));
            calls.add(x -> x.shared(k));
            calls.add(x -> x.mark(k, 0, 5));
            calls.add(x -> x.mark(0, k, 5));
            calls.add(x -> x.staff(k, 5));
            calls.add(x -> x.piece(k, 0));
            calls.add(x -> x.worth(k, 0));
            calls.add(x -> x.lean(k, 0));
            calls.add(x -> x.left(k, 0, 0));
            calls.add(x -> x.left(0, k, 0));
            calls.add(x -> x.order(k));
            calls.add(x -> x.turned(k));
            calls.add(x -> x.moves(k));
            calls.add(x -> x.spread(k));
            calls.add(x -> x.next(k));
        }
        for (int v : new int[] {-2, 101}) {
            calls.add(x -> x.pupils(v));
            calls.add(x -> x.rule(v, 1));
            calls.add(x -> x.rule(0, v));
            calls.add(x -> x.rule(1, v));
            calls.add(x -> x.rule(2, v));
            calls.add(x -> x.mark(0, 1, v));
            calls.add(x -> x.staff(0, v));
            calls.add(x -> x.count(v));
            calls.add(x -> x.piece(0, v));
            calls.add(x -> x.worth(0, v));
            calls.add(x -> x.lean(0, v));
            calls.add(x -> x.left(0, 1, v));
        }
        calls.add(x -> x.friends(1, 1, true));
        calls.add(x -> x.mark(1, 1, 5));
        calls.add(x -> x.left(1, 1, 0));
        return calls;
    }

    private void refusedChangesNothing() {
        doc.terms("What is refused changes nothing.");
        List<Supplier<PeerMarks>> houses = List.of(PeerMarks::new, Houses::busy, Houses::lacking, Houses::large);
        for (Supplier<PeerMarks> house : houses) {
            PeerMarks x = house.get();
            int size = x.count(0);
            for (ToLongFunction<PeerMarks> call : allRefusals()) {
                long answer = call.applyAsLong(x);
                doc.isTrue("each is refused, of " + size, answer == UNKNOWN || answer == OUTSIDE || answer == NOT);
            }
            doc.dueAlike("all refusals in a house of " + size, x, house.get());
        }
    }

    private void house() {
        doc.terms("PUPILS 0 to n - 1 (n 2 .. 8; 2 at first)");
        doc.due("2 at first", new PeerMarks().count(0), 2);
        for (int n = 2; n <= 8; n++) {
            doc.due("pupils(" + n + ")", new PeerMarks().pupils(n), 2);
            doc.due("pupil 0 of " + n, Houses.of(n).spread(0), 0);
            doc.due("pupil n - 1 of " + n, Houses.of(n).spread(n - 1), 0);
            doc.due("pupil n of " + n, Houses.of(n).spread(n), UNKNOWN);
            doc.due("pupil -1 of " + n, Houses.of(n).spread(-1), UNKNOWN);
        }
        doc.due("pupils(1)", new PeerMarks().pupils(1), OUTSIDE);
        doc.due("pupils(9)", new PeerMarks().pupils(9), OUTSIDE);

        doc.terms("WORK k is that of PUPIL k.");
        for (int k = 0; k < 8; k++) {
            doc.due("mark(" + k + ", " + k + ", 5)", Houses.of(8).mark(k, k, 5), NOT);
            doc.due("may(" + k + ")", Houses.of(8).may(k), 255 - (1 << k));
        }

        doc.terms("Some are FRIENDS (of one another).");
        PeerMarks x = Houses.of(3);
        x.friends(0, 2, true);
        doc.due("of 0", x.may(0), 0b010);
        doc.due("of 2", x.may(2), 0b010);
        doc.due("2 and 0", x.friends(2, 0, true), 1);
        doc.due("one pair", x.count(6), 1);
        x.friends(2, 1, true);
        doc.due("a friend's friend is none", x.friends(0, 1, false), 0);

        doc.terms("A PUPIL MAY mark a WORK that is not its own, and not a FRIEND's.");
        doc.due("both works are of friends", x.may(2), 0);
        doc.due("2 is no friend, but 1", x.may(0), 0b010);
        doc.due("nobody may mark work 2", x.next(2), PeerMarks.NONE);
    }

    private void rules() {
        doc.terms("EACH (1 .. 4; 2 at first): how many markers a WORK is to have");
        doc.due("2 at first", new PeerMarks().rule(0, 1), 2);
        doc.due("rule(0, 0)", new PeerMarks().rule(0, 0), OUTSIDE);
        doc.due("rule(0, 1)", new PeerMarks().rule(0, 1), 2);
        doc.due("rule(0, 4)", new PeerMarks().rule(0, 4), 2);
        doc.due("rule(0, 5)", new PeerMarks().rule(0, 5), OUTSIDE);
        for (int each = 1; each <= 4; each++) {
            doc.due("EACH " + each, Integer.bitCount(Houses.of(8, each, 8).plan(3)), each);
        }
        doc.due("at first", Integer.bitCount(Houses.of(8).plan(3)), 2);

        doc.terms("LOAD (1 .. 8; 4 at first): how many WORKS a PUPIL may have to mark.");
        doc.due("4 at first", new PeerMarks().rule(1, 1), 4);
        doc.due("rule(1, 0)", new PeerMarks().rule(1, 0), OUTSIDE);
        doc.due("rule(1, 1)", new PeerMarks().rule(1, 1), 4);
        doc.due("rule(1, 8)", new PeerMarks().rule(1, 8), 4);
        doc.due("rule(1, 9)", new PeerMarks().rule(1, 9), OUTSIDE);
        for (int load = 1; load <= 8; load++) {
            doc.due("LOAD " + load, Houses.of(8, 1, load).shared(0), Math.min(load, 7));
        }
        doc.due("at first", Houses.of(8).shared(0), 4);
    }

    private void plans() {
        doc.terms("A PLAN: for each WORK a SET of EACH PUPILS that MAY mark it, so that no PUPIL is in more than LOAD of them.");
        for (int each = 1; each <= 4; each++) {
            for (int load = each; load <= 8; load++) {
                PeerMarks x = Houses.of(8, each, load);
                x.friends(0, 1, true);
                x.friends(6, 7, true);
                x.friends(2, 5, true);
                for (int k = 0; k < 8; k++) {
                    doc.due("EACH " + each + ": work " + k, Integer.bitCount(x.plan(k)), each);
                    doc.due("those alone that MAY: work " + k, x.plan(k) & ~x.may(k), 0);
                    doc.isTrue("LOAD " + load + ": pupil " + k, x.shared(k) <= load);
                }
            }
        }
    }

    private void thePlan() {
        doc.terms("THE PLAN: the one whose SET of WORK 0, told as a row of rising numbers, is the first one in the order "
                + "of such rows (the first number that differs being the lesser)");
        doc.due("1, 2", Houses.of(4).plan(0), 0b0110);
        doc.due("1, 2, 3, 4", Houses.of(8, 4, 4).plan(0), 0b00011110);
        PeerMarks friend = Houses.of(4);
        friend.friends(0, 1, true);
        doc.due("2, 3, as 1 may not", friend.plan(0), 0b1100);
        // pupil 0 alone may mark work 3, and pupil 3 work 0 alone; so 1 and 2 mark one another's
        PeerMarks kept = Houses.of(4, 1, 1);
        kept.friends(3, 1, true);
        kept.friends(3, 2, true);
        doc.due("3, as it may mark nothing else", kept.plan(0), 0b1000);

        doc.terms("of several that whose SET of WORK 1 is so; and so on.");
        doc.due("work 1 after it", kept.plan(1), 0b0100);
        doc.due("work 2 after it", kept.plan(2), 0b0010);
        doc.due("work 3 after it", kept.plan(3), 0b0001);
        PeerMarks ring = Houses.of(4, 2, 2);
        int[] sets = {0b0110, 0b1001, 0b1001, 0b0110};
        for (int w = 0; w < 4; w++) {
            doc.due("four, just room: plan(" + w + ")", ring.plan(w), sets[w]);
        }
        dueAsModel();
    }

    /** Where rows are tried one after the other, the first plan that is found is the first of all. */
    private void dueAsModel() {
        for (int each = 1; each <= 4; each++) {
            for (int load = each; load <= 8; load++) {
                PeerMarks x = Houses.of(8, each, load);
                Model model = new Model();
                model.pupils(8);
                model.rule(0, each);
                model.rule(1, load);
                for (int q = 4; q < 8; q++) {
                    x.friends(0, q, true);
                    model.friends(0, q, true);
                }
                int[] sets = model.wholePlan();
                for (int w = 0; w < 8; w++) {
                    doc.due("EACH " + each + ", LOAD " + load + ": plan(" + w + ")", x.plan(w),
                            sets == null ? NOT : sets[w]);
                }
            }
        }
    }

    private void theLack() {
        doc.terms("If there is none: THE LACK: the least SET of WORKS (as a number)");
        PeerMarks x = Houses.of(5, 4, 4);
        x.friends(2, 4, true);
        doc.due("2 and 4 lack one marker each", x.lack(), 0b00100);
        doc.due("all lack one", Houses.of(4, 4, 8).lack(), 0b0001);
        PeerMarks late = Houses.of(8, 1, 1);
        late.friends(6, 7, true);
        for (int q = 1; q < 6; q++) {
            late.friends(6, q, true);
            late.friends(7, q, true);
        }
        doc.due("6 and 7 have but pupil 0 together", late.lack(), 0b11000000);

        doc.terms("for which EACH times how many they are is more than the sum, over all PUPILS, of the lesser one of "
                + "LOAD and of how many of these WORKS it MAY mark.");
        doc.due("2 * 2 is more than 1 + 1 + 1", Houses.of(3, 2, 1).lack(), 0b011);
        doc.due("2 * 3 is more than 4 * 1, 2 * 2 is not", Houses.of(4, 2, 1).lack(), 0b0111);
        doc.due("4 * 7 is more than 8 * 3, 4 * 6 is not", Houses.of(8, 4, 3).lack(), 0b01111111);
        doc.due("3 * 4 is more than 5 * 2, 3 * 3 is not", Houses.of(5, 3, 2).lack(), 0b01111);
        doc.due("as many is not more", Houses.of(5, 3, 3).lack(), 0);

        doc.terms("(There is one just then.)");
        for (int pairs = 0; pairs < 64; pairs++) {
            for (int each = 1; each <= 4; each++) {
                for (int load = 1; load <= 8; load++) {
                    PeerMarks y = Houses.of(4, each, load);
                    int pair = 0;
                    for (int p = 0; p < 4; p++) {
                        for (int q = 0; q < p; q++) {
                            y.friends(p, q, (pairs >> pair & 1) != 0);
                            pair++;
                        }
                    }
                    doc.isTrue("friends " + pairs + ", EACH " + each + ", LOAD " + load,
                            (y.lack() == 0) == (y.plan(0) != NOT));
                }
            }
        }
    }
}
