import java.io.IOException;
import java.lang.reflect.Method;
import java.nio.file.Files;
import java.nio.file.Path;
import java.util.ArrayList;
import java.util.List;
import java.util.Map;
import java.util.regex.Matcher;
import java.util.regex.Pattern;

/** What README.md says of the class: its example, played, and its table of calls, held against the document. */
final class ReadmeTest {
    private static final Check CHECK = new Check("ReadmeTest");
    private static final Pattern PLAYED = Pattern.compile("(?m)^x\\.(\\w+)\\((.*)\\); +// (-?\\w+)");
    private static final Pattern ROW = Pattern.compile("(?m)^\\| `(.*?)` \\| (.*?) \\| (.*?)\\|$");
    private static final Pattern PROMISED = Pattern.compile("`(?:int|long) (\\w+\\(.*?\\))`:(.*)");
    private static final Pattern REFUSAL = Pattern.compile("\\b(UNKNOWN|OUTSIDE|NOT)\\b");
    private static final Map<String, Long> CONSTANTS = Map.of("NONE", (long) PeerMarks.NONE,
            "UNKNOWN", (long) PeerMarks.UNKNOWN, "OUTSIDE", (long) PeerMarks.OUTSIDE, "NOT", (long) PeerMarks.NOT);

    private static Object[] argumentsOf(String list) {
        List<Object> arguments = new ArrayList<>();
        for (String word : list.isEmpty() ? new String[0] : list.split(", ")) {
            if (word.equals("true") || word.equals("false")) {
                arguments.add(Boolean.valueOf(word));
            } else {
                arguments.add(Integer.valueOf(word));
            }
        }
        return arguments.toArray();
    }

    private static long play(PeerMarks x, String name, Object[] arguments) throws ReflectiveOperationException {
        for (Method m : PeerMarks.class.getMethods()) {
            if (m.getName().equals(name) && m.getParameterCount() == arguments.length) {
                return ((Number) m.invoke(x, arguments)).longValue();
            }
        }
        throw new NoSuchMethodException(name);
    }

    private static void example(String readme) throws ReflectiveOperationException {
        PeerMarks x = new PeerMarks();
        int played = 0;
        Matcher m = PLAYED.matcher(readme);
        while (m.find()) {
            long want = CONSTANTS.containsKey(m.group(3)) ? CONSTANTS.get(m.group(3)) : Long.parseLong(m.group(3));
            CHECK.due(m.group(1) + "(" + m.group(2) + ")", play(x, m.group(1), argumentsOf(m.group(2))), want);
            played++;
        }
        CHECK.due("lines of the example", played, readme.lines().filter(line -> line.startsWith("x.")).count());
    }

    private static List<String> refusalsIn(String text) {
        List<String> found = new ArrayList<>();
        Matcher m = REFUSAL.matcher(text);
        while (m.find()) {
            found.add(m.group());
        }
        return found;
    }

    /** Promise 1 is of the constructor; each of the others has a row, in the document's order. */
    private static void table(Document document, String readme) {
        Matcher row = ROW.matcher(readme);
        for (int k = 2; k <= Document.PROMISES; k++) {
            Matcher promised = PROMISED.matcher(document.promise(k));
            boolean both = promised.find() && row.find();
            CHECK.isTrue("promise " + k + " has a call and a row", both);
            if (both) {
                String call = promised.group(1).replaceAll("(int|boolean) ", "");
                CHECK.isTrue("row of " + call + ", not " + row.group(1), row.group(1).equals(call));
                CHECK.isTrue("refusals of " + call + ": " + row.group(3),
                        refusalsIn(row.group(3)).equals(refusalsIn(promised.group(2))));
            }
        }
        CHECK.isTrue("no row more", !row.find());
    }

    private static void numbersOfRefusals(String readme) {
        CONSTANTS.forEach((name, number) ->
                CHECK.isTrue(name + " is told as " + number, readme.contains("`" + name + "` (" + number + ")")));
    }

    public static void main(String[] args) throws IOException, ReflectiveOperationException {
        String readme = Files.readString(Path.of("README.md"));
        example(readme);
        table(new Document(), readme);
        numbersOfRefusals(readme);
        CHECK.end();
    }
}
