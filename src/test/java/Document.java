import java.io.IOException;
import java.nio.file.Files;
import java.nio.file.Path;
import java.util.ArrayList;
import java.util.Arrays;
import java.util.LinkedHashMap;
import java.util.List;
import java.util.Map;
import java.util.regex.Matcher;
import java.util.regex.Pattern;

/** The document, by its sections, and what can be read from it without a judgement. */
final class Document {
    static final int PROMISES = 23;
    private static final Pattern HEADING = Pattern.compile("(?m)^Ahead of the calls (.*) the interface says: (.*)\\.$");

    private final String whole;

    Document() throws IOException {
        whole = Files.readString(Path.of("../shared/DOC.md"));
    }

    /** What stands under the title that begins so. */
    String section(String title) {
        int start = whole.indexOf("\n## " + title);
        if (start < 0) {
            throw new IllegalStateException("the document has no section " + title);
        }
        int end = whole.indexOf("\n## ", start + 1);
        return whole.substring(start + 4 + title.length(), end < 0 ? whole.length() : end);
    }

    String promise(int k) {
        return section("Promise " + k + ":");
    }

    /** The lines of the public face between its braces, without what is there for the eye alone. */
    List<String> face() {
        String text = section("The public face");
        List<String> lines = new ArrayList<>();
        for (String line : text.substring(text.indexOf('{') + 1, text.lastIndexOf('}')).split("\n")) {
            if (!line.isBlank()) {
                lines.add(line.strip());
            }
        }
        return lines;
    }

    /** Headings of the interface with the names of the calls that they stand ahead of. */
    Map<String, List<String>> headings() {
        Map<String, List<String>> found = new LinkedHashMap<>();
        Matcher m = HEADING.matcher(whole);
        while (m.find()) {
            found.put(m.group(2), Arrays.asList(m.group(1).replace("`", "").split(", ")));
        }
        return found;
    }
}
