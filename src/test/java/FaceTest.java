import java.io.IOException;
import java.lang.reflect.Constructor;
import java.lang.reflect.Field;
import java.lang.reflect.Method;
import java.lang.reflect.Modifier;
import java.nio.file.Files;
import java.nio.file.Path;
import java.util.Set;
import java.util.TreeSet;
import java.util.regex.Matcher;
import java.util.regex.Pattern;

/** The public face of the document, and rules of LANGUAGE.md that can be seen in the class and its text. */
final class FaceTest {
    private static final Check CHECK = new Check("FaceTest");
    private static final Set<String> FACE = Set.of(
            "public int pupils(int)", "public int friends(int,int,boolean)", "public int rule(int,int)",
            "public int may(int)", "public int plan(int)", "public int shared(int)", "public int lack()",
            "public int parts()", "public int mark(int,int,int)", "public int staff(int,int)",
            "public int count(int)", "public int piece(int,int)", "public long worth(int,int)",
            "public long lean(int,int)", "public long left(int,int,int)", "public int order(int)",
            "public int quarrel()", "public int turned(int)", "public int moves(int)",
            "public int spread(int)", "public int next(int)", "public int digest()");
    private static final Pattern NOT_OURS = Pattern.compile(
            "\\b(throw|throws|try|catch|synchronized|assert|static\\s*\\{|import (?!java\\.util\\.Arrays;))|->|::"
            + "|\\w+Exact\\b|\\b(Random|System\\.(?!arraycopy)|Thread|Object|double|float)\\b");

    private static void constants() {
        CHECK.due("NONE", PeerMarks.NONE, -1);
        CHECK.due("UNKNOWN", PeerMarks.UNKNOWN, -1001);
        CHECK.due("OUTSIDE", PeerMarks.OUTSIDE, -1002);
        CHECK.due("NOT", PeerMarks.NOT, -1003);
    }

    private static void members() {
        Set<String> found = new TreeSet<>();
        Set<String> names = new TreeSet<>();
        for (Method m : PeerMarks.class.getDeclaredMethods()) {
            if (Modifier.isPublic(m.getModifiers())) {
                found.add(m.toString().replace("PeerMarks.", ""));
                names.add(m.getName());
            }
        }
        CHECK.isTrue("the public methods are the face: " + found, found.equals(FACE));
        for (Method m : PeerMarks.class.getDeclaredMethods()) {
            boolean open = Modifier.isPublic(m.getModifiers());
            CHECK.isTrue(m + " is public or private", open || Modifier.isPrivate(m.getModifiers()));
            CHECK.isTrue(m + " bears its own name", open || !names.contains(m.getName()));
        }
        Set<String> constants = Set.of("NONE", "UNKNOWN", "OUTSIDE", "NOT");
        for (Field f : PeerMarks.class.getDeclaredFields()) {
            boolean open = constants.contains(f.getName());
            CHECK.isTrue(f + " is as it should be", open == Modifier.isPublic(f.getModifiers())
                    && open != Modifier.isPrivate(f.getModifiers()));
        }
        Constructor<?>[] made = PeerMarks.class.getDeclaredConstructors();
        CHECK.isTrue("one constructor, public and without arguments", made.length == 1
                && Modifier.isPublic(made[0].getModifiers()) && made[0].getParameterCount() == 0);
        CHECK.isTrue("the class is public and final", Modifier.isPublic(PeerMarks.class.getModifiers())
                && Modifier.isFinal(PeerMarks.class.getModifiers()));
    }

    private static void classesInside() {
        Class<?>[] inside = PeerMarks.class.getDeclaredClasses();
        CHECK.isTrue("at most twelve classes", inside.length < 12);
        for (Class<?> c : inside) {
            int open = Modifier.PUBLIC | Modifier.PROTECTED;
            CHECK.isTrue(c + " is static and not open", Modifier.isStatic(c.getModifiers())
                    && (c.getModifiers() & open) == 0);
            int fields = 0;
            for (Field f : c.getDeclaredFields()) {
                boolean still = Modifier.isStatic(f.getModifiers());
                fields += still ? 0 : 1;
                CHECK.isTrue(f + " is no static state", !still || Modifier.isFinal(f.getModifiers()));
            }
            CHECK.isTrue(c + " has at most twenty fields", fields <= 20);
        }
    }

    private static void text() throws IOException {
        String whole = Files.readString(Path.of("src/main/java/PeerMarks.java"));
        String code = whole.replaceAll("(?s)/\\*.*?\\*/", "").replaceAll("//[^\n]*", "");
        Matcher m = NOT_OURS.matcher(code);
        while (m.find()) {
            CHECK.isTrue("'" + m.group() + "' is not of the language", false);
        }
        CHECK.isTrue("plain signs alone", whole.chars().allMatch(c -> c < 128));
    }

    public static void main(String[] args) throws IOException {
        constants();
        members();
        classesInside();
        text();
        CHECK.end();
    }
}
