import java.io.IOException;
import java.lang.reflect.Constructor;
import java.lang.reflect.Field;
import java.lang.reflect.Member;
import java.lang.reflect.Method;
import java.lang.reflect.Modifier;
import java.nio.file.Files;
import java.nio.file.Path;
import java.util.ArrayList;
import java.util.List;
import java.util.Set;
import java.util.TreeSet;

/** The public face is the document's and no more, and the source keeps to what LANGUAGE.md leaves. */
public final class FaceTest {
    private static final Check CHECK = new Check();
    private static final String[] FACE = {
        "station 2", "plan 2", "oscillator 1", "spurs 1", "spur 3", "image 2", "worst 1", "birdies 0", "load 1", "best 3",
        "gang 2", "part 2", "tuned 2", "error 1", "point 2", "off 0", "trimmed 2", "mark 1",
        "set 0", "offBy 3", "ofSet 3", "errorOf 1", "sheet 2", "round 1", "align 1",
        "fault 1", "test 1", "reading 3", "read 2", "again 0", "left 1", "count 1"};
    private static final String[] NOT_IN_THE_SOURCE = {
        "throw", "try", "catch", "synchronized", "assert", "->", "::", "import ", "package ", "Exact(", "static {",
        "Object", "double", "float", "System.out", "Exception", "volatile", "native", "protected"};

    public static void main(String[] args) throws IOException {
        constants();
        methods();
        nestedClasses();
        source();
        CHECK.end("FaceTest");
    }

    private static void constants() {
        CHECK.due("NONE", RadioRoom.NONE, -1);
        CHECK.due("FULL", RadioRoom.FULL, -2);
        CHECK.due("STATE", RadioRoom.STATE, -3);
        CHECK.due("NOT", RadioRoom.NOT, -4);
        CHECK.due("NO_VALUE", RadioRoom.NO_VALUE, -2000000000);
    }

    private static void methods() {
        CHECK.holds("public and final", RadioRoom.class.getModifiers() == (Modifier.PUBLIC | Modifier.FINAL));
        Set<String> seen = new TreeSet<>();
        for (Method m : RadioRoom.class.getDeclaredMethods()) {
            if (Modifier.isPublic(m.getModifiers())) {
                CHECK.holds(m + " answers an int", m.getReturnType() == int.class);
                seen.add(m.getName() + " " + m.getParameterCount());
            }
        }
        CHECK.holds("the face's methods: " + seen, seen.equals(new TreeSet<>(List.of(FACE))));
        Constructor<?>[] made = RadioRoom.class.getDeclaredConstructors();
        CHECK.holds("one constructor", made.length == 1 && made[0].getParameterCount() == 0
                && Modifier.isPublic(made[0].getModifiers()));
        List<Member> members = new ArrayList<>(List.of(RadioRoom.class.getDeclaredMethods()));
        members.addAll(List.of(RadioRoom.class.getDeclaredFields()));
        int publicFields = 0;
        for (Member m : members) {
            boolean open = Modifier.isPublic(m.getModifiers());
            CHECK.holds(m.getName() + " is public or private", open || Modifier.isPrivate(m.getModifiers()));
            publicFields += open && m instanceof Field ? 1 : 0;
        }
        CHECK.due("public constants", publicFields, 5);
    }

    private static void nestedClasses() {
        Set<String> faceNames = new TreeSet<>();
        for (String row : FACE) {
            faceNames.add(row.substring(0, row.indexOf(' ')));
        }
        Class<?>[] inside = RadioRoom.class.getDeclaredClasses();
        CHECK.holds("at most twelve classes", inside.length < 12);
        for (Class<?> c : inside) {
            CHECK.holds(c + " is static and private", Modifier.isStatic(c.getModifiers()) && Modifier.isPrivate(c.getModifiers()));
            CHECK.holds(c + " has at most twenty fields", c.getDeclaredFields().length <= 20);
            for (Method m : c.getDeclaredMethods()) {
                CHECK.holds(m + " has a name of its own", !faceNames.contains(m.getName()));
                CHECK.holds(m + " takes at most seven", m.getParameterCount() <= 7);
            }
            for (Field f : c.getDeclaredFields()) {
                CHECK.holds(f + " is no state of the class", !Modifier.isStatic(f.getModifiers()));
            }
        }
    }

    private static void source() throws IOException {
        String text = Files.readString(Path.of("src/main/java/RadioRoom.java"));
        String code = text.replaceAll("(?s)/\\*.*?\\*/", " ").replaceAll("//[^\n]*", " ");
        for (String word : NOT_IN_THE_SOURCE) {
            CHECK.holds("no '" + word + "' in the source", !code.contains(word));
        }
        CHECK.holds("plain signs alone", text.chars().allMatch(c -> c == '\n' || c >= 32 && c < 127));
    }
}
