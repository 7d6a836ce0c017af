import java.util.Arrays;
import java.util.function.Supplier;
import java.util.function.ToLongFunction;

/**
 * Answers that are due by a sentence of the document. A sentence that is quoted must stand in its
 * section, and at the end every word of the sections must have been quoted: so no sentence is
 * without a test, and a document that changes is noticed.
 */
final class Sentences {
    private static final int TERMS = 0, OPENING = Document.PROMISES + 1, SECTIONS = OPENING + 1;

    private final Check check = new Check("BoundsTest");
    /** The section "Terms", then the promises by their numbers, then "What it is". */
    private final String[] texts = new String[SECTIONS];
    private final boolean[][] quoted = new boolean[SECTIONS][];
    private String sentence = "";
    private int answers = 1;

    Sentences(Document document) {
        texts[TERMS] = whatTermsSay(document.section("Terms"));
        texts[OPENING] = document.section("What it is");
        for (int k = 1; k <= Document.PROMISES; k++) {
            texts[k] = document.promise(k).replaceFirst("(?s)^.*?`[^`]*`:", "");
        }
        for (int k = 0; k < SECTIONS; k++) {
            texts[k] = texts[k].replaceAll("\\s+", " ");
            quoted[k] = new boolean[texts[k].length()];
        }
    }

    /** Without what is there for the eye alone, and the headings of the interface, which FaceTest looks at. */
    private static String whatTermsSay(String section) {
        return section.replaceAll("(?m)^(```\\w*|Ahead of the calls .*)$", "").replaceAll("======== \\d", "");
    }

    /** What is looked at from now on is due by these words of the section "What it is". */
    void opening(String words) {
        begin(OPENING, words);
    }

    /** What is looked at from now on is due by these words of the section "Terms". */
    void terms(String words) {
        begin(TERMS, words);
    }

    /** What is looked at from now on is due by these words of a promise. */
    void promise(int k, String words) {
        begin(k, words);
    }

    private static String nameOf(int section) {
        return section == TERMS ? "Terms" : section == OPENING ? "What it is" : "promise " + section;
    }

    private void begin(int section, String words) {
        check.isTrue(sentence + " has an answer that is looked at", answers > 0);
        answers = 0;
        sentence = nameOf(section) + ", \"" + words + "\": ";
        int at = texts[section].indexOf(words);
        check.isTrue(sentence + "stands in the document", at >= 0);
        // words that come twice are two sentences: the second quotation is that of the second place
        while (at >= 0 && quoted[section][at] && texts[section].indexOf(words, at + 1) >= 0) {
            at = texts[section].indexOf(words, at + 1);
        }
        if (at >= 0) {
            Arrays.fill(quoted[section], at, at + words.length(), true);
        }
    }

    void due(String call, long got, long want) {
        answers++;
        check.due(sentence + call, got, want);
    }

    void isTrue(String what, boolean holds) {
        due(what, holds ? 1 : 0, 1);
    }

    /** Both numbers of a fraction, the upper one first. */
    void dueFraction(String call, long top, long lower, long wantTop, long wantLower) {
        due(call + " upper", top, wantTop);
        due(call + " lower", lower, wantLower);
    }

    /** All that two objects tell is the same. */
    void dueAlike(String what, PeerMarks x, PeerMarks y) {
        isTrue(what, Look.at(x).equals(Look.at(y)));
    }

    /** A call is refused, and the house is then as one in which it was not made. */
    void refused(Supplier<PeerMarks> house, String call, ToLongFunction<PeerMarks> asked, long refusal) {
        PeerMarks x = house.get();
        due(call, asked.applyAsLong(x), refusal);
        dueAlike(call + " changed nothing", x, house.get());
    }

    void end() {
        begin(TERMS, "");
        for (int k = 0; k < SECTIONS; k++) {
            check.isTrue(nameOf(k) + " has words that no test quotes: " + wordsLeft(k), wordsLeft(k).isEmpty());
        }
        check.end();
    }

    private String wordsLeft(int section) {
        StringBuilder left = new StringBuilder();
        for (int i = 0; i < quoted[section].length; i++) {
            left.append(quoted[section][i] ? ' ' : texts[section].charAt(i));
        }
        return left.toString().replaceAll("[^A-Za-z0-9]+", " ").trim();
    }
}
