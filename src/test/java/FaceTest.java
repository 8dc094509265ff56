import java.io.IOException;
import java.lang.reflect.Constructor;
import java.lang.reflect.Field;
import java.lang.reflect.Member;
import java.lang.reflect.Method;
import java.lang.reflect.Modifier;
import java.nio.file.Files;
import java.nio.file.Path;
import java.util.ArrayList;
import java.util.List;
import java.util.Set;
import java.util.StringJoiner;
import java.util.TreeSet;
import java.util.regex.Matcher;
import java.util.regex.Pattern;

/** The public face is the document's and no more, and the source keeps to what LANGUAGE.md leaves. */
public final class FaceTest {
    private static final Check CHECK = new Check();
    private static final Set<String> FACE = new TreeSet<>();
    private static final Set<String> FACE_NAMES = new TreeSet<>();
    private static final String[] NOT_IN_THE_SOURCE = {
        "throw", "try", "catch", "synchronized", "assert", "->", "::", "import ", "package ", "Exact(", "static {",
        "Object", "double", "float", "System.out", "Exception", "volatile", "native", "protected", "while", "hashCode"};
    /** Of what rule 4 leaves, what the class uses. */
    private static final Set<String> LIBRARY = Set.of("Math.abs", "Math.max", "Math.min", "Integer.bitCount");
    private static final Pattern DUE_METHOD = Pattern.compile("public (int \\w+\\([^)]*\\));");
    private static final Pattern LIBRARY_NAME = Pattern.compile("\\b[A-Z]\\w*[a-z]\\w*\\.\\w+");
    /** A method or constructor from its head to the brace that stands below it. */
    private static final Pattern BODY = Pattern.compile(
            "(?ms)^( +)(?:(?:public|private) )?(?:static )?((?:[\\w\\[\\]]+ )?)(\\w+)\\([^;{}]*\\) \\{\\n.*?^\\1\\}\\n");
    private static final int LONGEST_BODY = 60;

    public static void main(String[] args) throws IOException {
        faceOfTheDocument();
        constants();
        methods();
        nestedClasses();
        source();
        library();
        bodies();
        CHECK.end("FaceTest");
    }

    private static void faceOfTheDocument() throws IOException {
        Matcher due = DUE_METHOD.matcher(Files.readString(Path.of("../shared/DOC.md")));
        while (due.find()) {
            String head = due.group(1).replaceAll("int \\w+(?=[,)])", "int");
            FACE.add(head);
            FACE_NAMES.add(head.substring("int ".length(), head.indexOf('(')));
        }
        CHECK.due("methods of the document", FACE.size(), 32);
    }

    private static String headOf(Method m) {
        StringJoiner types = new StringJoiner(", ", m.getReturnType() + " " + m.getName() + "(", ")");
        for (Class<?> type : m.getParameterTypes()) {
            types.add(type.getName());
        }
        return types.toString();
    }

    private static void constants() {
        CHECK.due("NONE", RadioRoom.NONE, -1);
        CHECK.due("FULL", RadioRoom.FULL, -2);
        CHECK.due("STATE", RadioRoom.STATE, -3);
        CHECK.due("NOT", RadioRoom.NOT, -4);
        CHECK.due("NO_VALUE", RadioRoom.NO_VALUE, -2000000000);
    }

    private static void methods() {
        CHECK.holds("public and final", RadioRoom.class.getModifiers() == (Modifier.PUBLIC | Modifier.FINAL));
        Set<String> seen = new TreeSet<>();
        for (Method m : RadioRoom.class.getDeclaredMethods()) {
            if (Modifier.isPublic(m.getModifiers())) {
                CHECK.holds(m + " is of the object", !Modifier.isStatic(m.getModifiers()));
                seen.add(headOf(m));
            }
        }
        CHECK.holds("the face's methods: " + seen, seen.equals(FACE));
        Constructor<?>[] made = RadioRoom.class.getDeclaredConstructors();
        CHECK.holds("one constructor", made.length == 1 && made[0].getParameterCount() == 0
                && Modifier.isPublic(made[0].getModifiers()));
        List<Member> members = new ArrayList<>(List.of(RadioRoom.class.getDeclaredMethods()));
        members.addAll(List.of(RadioRoom.class.getDeclaredFields()));
        int publicFields = 0;
        for (Member m : members) {
            boolean open = Modifier.isPublic(m.getModifiers());
            CHECK.holds(m.getName() + " is public or private", open || Modifier.isPrivate(m.getModifiers()));
            CHECK.holds(m.getName() + ", if private, has a name of its own", open || !FACE_NAMES.contains(m.getName()));
            publicFields += open && m instanceof Field ? 1 : 0;
        }
        CHECK.due("public constants", publicFields, 5);
    }

    private static void nestedClasses() {
        Class<?>[] inside = RadioRoom.class.getDeclaredClasses();
        CHECK.holds("at most twelve classes", inside.length < 12);
        for (Class<?> c : inside) {
            CHECK.holds(c + " is static and private", Modifier.isStatic(c.getModifiers()) && Modifier.isPrivate(c.getModifiers()));
            CHECK.holds(c + " has at most twenty fields", c.getDeclaredFields().length <= 20);
            for (Method m : c.getDeclaredMethods()) {
                CHECK.holds(m + " has a name of its own", !FACE_NAMES.contains(m.getName()));
                CHECK.holds(m + " takes at most seven", m.getParameterCount() <= 7);
            }
            for (Field f : c.getDeclaredFields()) {
                CHECK.holds(f + " is no state of the class", !Modifier.isStatic(f.getModifiers()));
            }
        }
    }

    private static void source() throws IOException {
        String code = code();
        for (String word : NOT_IN_THE_SOURCE) {
            CHECK.holds("no '" + word + "' in the source", !code.contains(word));
        }
        CHECK.holds("plain signs alone", text().chars().allMatch(c -> c == '\n' || c >= 32 && c < 127));
    }

    private static String text() throws IOException {
        return Files.readString(Path.of("src/main/java/RadioRoom.java"));
    }

    private static String code() throws IOException {
        return text().replaceAll("(?s)/\\*.*?\\*/", " ").replaceAll("//[^\n]*", " ");
    }

    private static void library() throws IOException {
        Matcher name = LIBRARY_NAME.matcher(code());
        while (name.find()) {
            CHECK.holds(name.group() + " is of the library that is left", LIBRARY.contains(name.group()));
        }
    }

    /** README says that no call but the constructor and set() makes an object; set() does it by build(). */
    private static void bodies() throws IOException {
        int seen = 0;
        Matcher body = BODY.matcher(code());
        while (body.find()) {
            seen++;
            String name = body.group(3);
            CHECK.holds(name + " is short", body.group().lines().count() <= LONGEST_BODY);
            boolean makes = body.group().contains("new ") || body.group().contains(".clone()");
            boolean isConstructor = body.group(2).isEmpty();
            CHECK.holds(name + " makes nothing", !makes || isConstructor || name.equals("build"));
        }
        int declared = 0;
        for (Class<?> c : RadioRoom.class.getDeclaredClasses()) {
            declared += c.getDeclaredMethods().length;
        }
        declared += RadioRoom.class.getDeclaredMethods().length;
        CHECK.holds("each method was seen: " + seen + " of " + declared + " and constructors", seen > declared);
    }
}
