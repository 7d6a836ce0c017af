import java.io.IOException;
import java.lang.reflect.Constructor;
import java.lang.reflect.Field;
import java.lang.reflect.Method;
import java.lang.reflect.Modifier;
import java.nio.file.Files;
import java.nio.file.Path;
import java.util.ArrayList;
import java.util.LinkedHashMap;
import java.util.List;
import java.util.Map;
import java.util.Set;
import java.util.TreeSet;
import java.util.regex.Matcher;
import java.util.regex.Pattern;

/** The public face of the document, and rules of LANGUAGE.md that can be seen in the class and its text. */
final class FaceTest {
    private static final Check CHECK = new Check("FaceTest");
    private static final Pattern HEADING_OR_CALL =
            Pattern.compile("(?m)^    (?:// (---- .*)|public (?:int|long) (\\w+)\\(.*)$");
    private static final Pattern NOT_OURS = Pattern.compile(
            "\\b(throw|throws|try|catch|synchronized|assert|static\\s*\\{|import (?!java\\.util\\.Arrays;))|->|::"
            + "|\\w+Exact\\b|\\b(Random|System\\.(?!arraycopy)|Thread|Object|double|float)\\b");

    private static void constants(Document document) {
        CHECK.due("NONE", PeerMarks.NONE, -1);
        CHECK.due("UNKNOWN", PeerMarks.UNKNOWN, -1001);
        CHECK.due("OUTSIDE", PeerMarks.OUTSIDE, -1002);
        CHECK.due("NOT", PeerMarks.NOT, -1003);
        CHECK.isTrue("the document has just these", document.face().get(0).equals(
                "public static final int NONE = -1, UNKNOWN = -1001, OUTSIDE = -1002, NOT = -1003;"));
        CHECK.isTrue("and the constructor", document.face().get(1).equals("public PeerMarks();"));
    }

    /** The calls of the document, in the form in which Java tells of methods. */
    private static Set<String> callsOf(Document document) {
        Set<String> calls = new TreeSet<>();
        for (String line : document.face().subList(2, document.face().size())) {
            calls.add(line.replaceAll(" \\w+(?=[,)])", "").replace(", ", ",").replace(";", ""));
        }
        return calls;
    }

    private static void members(Document document) {
        Set<String> found = new TreeSet<>();
        Set<String> names = new TreeSet<>();
        for (Method m : PeerMarks.class.getDeclaredMethods()) {
            if (Modifier.isPublic(m.getModifiers())) {
                found.add(m.toString().replace("PeerMarks.", ""));
                names.add(m.getName());
            }
        }
        CHECK.due("how many calls there are", found.size(), 22);
        CHECK.isTrue("the public methods are the face: " + found, found.equals(callsOf(document)));
        for (Method m : PeerMarks.class.getDeclaredMethods()) {
            boolean open = Modifier.isPublic(m.getModifiers());
            CHECK.isTrue(m + " is public or private", open || Modifier.isPrivate(m.getModifiers()));
            CHECK.isTrue(m + " bears its own name", open || !names.contains(m.getName()));
        }
        Set<String> constants = Set.of("NONE", "UNKNOWN", "OUTSIDE", "NOT");
        for (Field f : PeerMarks.class.getDeclaredFields()) {
            boolean open = constants.contains(f.getName());
            CHECK.isTrue(f + " is as it should be", open == Modifier.isPublic(f.getModifiers())
                    && open != Modifier.isPrivate(f.getModifiers()));
        }
        Constructor<?>[] made = PeerMarks.class.getDeclaredConstructors();
        CHECK.isTrue("one constructor, public and without arguments", made.length == 1
                && Modifier.isPublic(made[0].getModifiers()) && made[0].getParameterCount() == 0);
        CHECK.isTrue("the class is public and final", Modifier.isPublic(PeerMarks.class.getModifiers())
                && Modifier.isFinal(PeerMarks.class.getModifiers()));
    }

    private static void classesInside() {
        Class<?>[] inside = PeerMarks.class.getDeclaredClasses();
        CHECK.isTrue("at most twelve classes", inside.length < 12);
        for (Class<?> c : inside) {
            int open = Modifier.PUBLIC | Modifier.PROTECTED;
            CHECK.isTrue(c + " is static and not open", Modifier.isStatic(c.getModifiers())
                    && (c.getModifiers() & open) == 0);
            int fields = 0;
            for (Field f : c.getDeclaredFields()) {
                boolean still = Modifier.isStatic(f.getModifiers());
                fields += still ? 0 : 1;
                CHECK.isTrue(f + " is no static state", !still || Modifier.isFinal(f.getModifiers()));
            }
            CHECK.isTrue(c + " has at most twenty fields", fields <= 20);
        }
    }

    /** "Ahead of the calls .. the interface says": the same headings stand ahead of the same calls. */
    private static void headings(Document document, String whole) {
        Map<String, List<String>> found = new LinkedHashMap<>();
        String heading = "";
        Matcher m = HEADING_OR_CALL.matcher(whole);
        while (m.find()) {
            if (m.group(1) != null) {
                heading = m.group(1);
            } else {
                found.computeIfAbsent(heading, h -> new ArrayList<>()).add(m.group(2));
            }
        }
        CHECK.due("how many headings there are", found.size(), 6);
        CHECK.isTrue("the headings are those of the interface: " + found, found.equals(document.headings()));
    }

    private static void text(String whole) {
        String code = whole.replaceAll("(?s)/\\*.*?\\*/", "").replaceAll("//[^\n]*", "");
        Matcher m = NOT_OURS.matcher(code);
        while (m.find()) {
            CHECK.isTrue("'" + m.group() + "' is not of the language", false);
        }
        CHECK.isTrue("plain signs alone", whole.chars().allMatch(c -> c < 128));
    }

    public static void main(String[] args) throws IOException {
        Document document = new Document();
        String whole = Files.readString(Path.of("src/main/java/PeerMarks.java"));
        constants(document);
        members(document);
        classesInside();
        headings(document, whole);
        text(whole);
        CHECK.end();
    }
}
