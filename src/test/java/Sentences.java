import java.io.IOException;
import java.nio.file.Files;
import java.nio.file.Path;
import java.util.Arrays;
import java.util.function.Supplier;
import java.util.function.ToLongFunction;

/**
 * Answers that are due by a sentence of the document. A sentence that is quoted must stand in its
 * section, and at the end every word of the sections must have been quoted: so no sentence is
 * without a test, and a document that changes is noticed.
 */
final class Sentences {
    private static final int PROMISES = 23;

    private final Check check = new Check("BoundsTest");
    /** The section "Terms", then the promises by their numbers. */
    private final String[] texts = new String[PROMISES + 1];
    private final boolean[][] quoted = new boolean[PROMISES + 1][];
    private String sentence = "";
    private int answers = 1;

    Sentences(Path document) throws IOException {
        String whole = Files.readString(document);
        texts[0] = whatTermsSay(sectionOf(whole, "Terms"));
        for (int k = 1; k <= PROMISES; k++) {
            texts[k] = sectionOf(whole, "Promise " + k + ":").replaceFirst("(?s)^.*?`[^`]*`:", "");
        }
        for (int k = 0; k <= PROMISES; k++) {
            texts[k] = texts[k].replaceAll("\\s+", " ");
            quoted[k] = new boolean[texts[k].length()];
        }
    }

    private static String sectionOf(String whole, String title) {
        int start = whole.indexOf("\n## " + title);
        if (start < 0) {
            throw new IllegalStateException("the document has no section " + title);
        }
        int end = whole.indexOf("\n## ", start + 1);
        return whole.substring(start + 4 + title.length(), end < 0 ? whole.length() : end);
    }

    /** Without what is there for the eye alone, and the headings of the interface. */
    private static String whatTermsSay(String section) {
        return section.replaceAll("(?m)^(```\\w*|Ahead of the calls .*)$", "").replaceAll("======== \\d", "");
    }

    /** What is looked at from now on is due by these words of the section "Terms". */
    void terms(String words) {
        begin(0, "Terms", words);
    }

    /** What is looked at from now on is due by these words of a promise. */
    void promise(int k, String words) {
        begin(k, "promise " + k, words);
    }

    private void begin(int section, String name, String words) {
        check.isTrue(sentence + " has an answer that is looked at", answers > 0);
        answers = 0;
        sentence = name + ", \"" + words + "\": ";
        int at = texts[section].indexOf(words);
        check.isTrue(sentence + "stands in the document", at >= 0);
        // words that come twice are two sentences: the second quotation is that of the second place
        while (at >= 0 && quoted[section][at] && texts[section].indexOf(words, at + 1) >= 0) {
            at = texts[section].indexOf(words, at + 1);
        }
        if (at >= 0) {
            Arrays.fill(quoted[section], at, at + words.length(), true);
        }
    }

    void due(String call, long got, long want) {
        answers++;
        check.due(sentence + call, got, want);
    }

    void isTrue(String what, boolean holds) {
        due(what, holds ? 1 : 0, 1);
    }

    /** Both numbers of a fraction, the upper one first. */
    void dueFraction(String call, long top, long lower, long wantTop, long wantLower) {
        due(call + " upper", top, wantTop);
        due(call + " lower", lower, wantLower);
    }

    /** All that two objects tell is the same. */
    void dueAlike(String what, PeerMarks x, PeerMarks y) {
        isTrue(what, Look.at(x).equals(Look.at(y)));
    }

    /** A call is refused, and the house is then as one in which it was not made. */
    void refused(Supplier<PeerMarks> house, String call, ToLongFunction<PeerMarks> asked, long refusal) {
        PeerMarks x = house.get();
        due(call, asked.applyAsLong(x), refusal);
        dueAlike(call + " changed nothing", x, house.get());
    }

    void end() {
        begin(0, "Terms", "");
        for (int k = 0; k <= PROMISES; k++) {
            check.isTrue((k == 0 ? "Terms" : "promise " + k) + " has words that no test quotes: "
                    + wordsLeft(k), wordsLeft(k).isEmpty());
        }
        check.end();
    }

    private String wordsLeft(int section) {
        StringBuilder left = new StringBuilder();
        for (int i = 0; i < quoted[section].length; i++) {
            left.append(quoted[section][i] ? ' ' : texts[section].charAt(i));
        }
        return left.toString().replaceAll("[^A-Za-z0-9]+", " ").trim();
    }
}
