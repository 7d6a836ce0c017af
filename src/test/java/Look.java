/** All that an object tells, as a text: two that are alike have the same. Some 260 of an object's 512 calls. */
final class Look {
    private Look() {
    }

    static String at(PeerMarks x) {
        StringBuilder text = new StringBuilder();
        for (int what = 0; what < 7; what++) {
            tell(text, "count", x.count(what));
        }
        tell(text, "lack", x.lack());
        tell(text, "parts", x.parts());
        tell(text, "quarrel", x.quarrel());
        tell(text, "digest", x.digest());
        for (int k = 0; k < 8; k++) {
            tellOf(text, x, k);
        }
        for (int what = 0; what < 3; what++) {
            // 1 is within the bounds of all three
            int was = x.rule(what, 1);
            x.rule(what, was);
            tell(text, "rule", was);
        }
        return text.toString();
    }

    private static void tellOf(StringBuilder text, PeerMarks x, int k) {
        tell(text, "may", x.may(k));
        tell(text, "plan", x.plan(k));
        tell(text, "shared", x.shared(k));
        tell(text, "order", x.order(k));
        tell(text, "turned", x.turned(k));
        tell(text, "moves", x.moves(k));
        tell(text, "spread", x.spread(k));
        tell(text, "next", x.next(k));
        for (int what = 0; what < 2; what++) {
            tell(text, "piece", x.piece(k, what));
            tell(text, "worth", x.worth(k, what));
            tell(text, "lean", x.lean(k, what));
            for (int w = 0; w < 8; w++) {
                tell(text, "left", x.left(k, w, what));
            }
        }
    }

    private static void tell(StringBuilder text, String call, long answer) {
        text.append(call).append(' ').append(answer).append('\n');
    }
}
