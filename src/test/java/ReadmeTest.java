import java.io.IOException;
import java.lang.reflect.Method;
import java.lang.reflect.Modifier;
import java.nio.file.Files;
import java.nio.file.Path;
import java.util.Arrays;
import java.util.Set;
import java.util.TreeSet;
import java.util.regex.Matcher;
import java.util.regex.Pattern;
import java.util.stream.Stream;

/** What README.md says is so: its example is gone through call by call, its tables are held against the face. */
public final class ReadmeTest {
    private static final Check CHECK = new Check();
    private static final Pattern EXAMPLE = Pattern.compile("room\\.(\\w+)\\(([^)]*)\\);\\s*// (-?\\d+)(?::.*)?");
    private static final Pattern CALL_ROW = Pattern.compile("(?m)^\\| `(\\w+)\\(([^)]*)\\)` \\|.*\\|.*\\|$");
    private static final Pattern TEST_ROW = Pattern.compile("`(\\w+Test)`");
    private static final Pattern CONSTANT = Pattern.compile("`([A-Z_]+)` (?:is )?(-\\d+)");

    public static void main(String[] args) throws IOException, ReflectiveOperationException {
        String text = Files.readString(Path.of("README.md"));
        example(between(text, "```java", "```"));
        calls(between(text, "## The calls", "## How"));
        constants(between(text, "## The calls", "## How"));
        tests(text.substring(text.indexOf("## Tests")));
        CHECK.end("ReadmeTest");
    }

    private static String between(String text, String from, String to) {
        int start = text.indexOf(from) + from.length();
        return text.substring(start, text.indexOf(to, start));
    }

    private static void example(String code) throws ReflectiveOperationException {
        RadioRoom room = new RadioRoom();
        int gone = 0;
        for (String line : code.lines().filter(line -> line.startsWith("room.")).toList()) {
            Matcher row = EXAMPLE.matcher(line);
            CHECK.holds("a call with its answer: " + line, row.matches());
            CHECK.due(line, answer(room, row.group(1), row.group(2)), Integer.parseInt(row.group(3)));
            gone++;
        }
        CHECK.holds("the example has calls", gone > 20);
    }

    private static int answer(RadioRoom room, String name, String numbers) throws ReflectiveOperationException {
        Object[] given = numbers.isEmpty() ? new Object[0]
                : Arrays.stream(numbers.split(", ")).map(Integer::valueOf).toArray();
        Class<?>[] types = new Class<?>[given.length];
        Arrays.fill(types, int.class);
        return (Integer) RadioRoom.class.getMethod(name, types).invoke(room, given);
    }

    private static void calls(String tables) {
        Set<String> told = new TreeSet<>();
        Matcher row = CALL_ROW.matcher(tables);
        while (row.find()) {
            int numbers = row.group(2).isEmpty() ? 0 : row.group(2).split(", ").length;
            CHECK.holds(row.group(1) + " is told once", told.add(row.group(1) + " " + numbers));
        }
        Set<String> face = new TreeSet<>();
        for (Method m : RadioRoom.class.getDeclaredMethods()) {
            if (Modifier.isPublic(m.getModifiers())) {
                face.add(m.getName() + " " + m.getParameterCount());
            }
        }
        CHECK.holds("the tables tell the face: " + told, told.equals(face));
    }

    private static void constants(String text) throws ReflectiveOperationException {
        Set<String> told = new TreeSet<>();
        Matcher one = CONSTANT.matcher(text);
        while (one.find()) {
            told.add(one.group(1));
            CHECK.due(one.group(1), RadioRoom.class.getField(one.group(1)).getInt(null), Integer.parseInt(one.group(2)));
        }
        CHECK.due("constants that are told", told.size(), RadioRoom.class.getFields().length);
    }

    private static void tests(String text) throws IOException {
        Set<String> told = new TreeSet<>();
        Matcher one = TEST_ROW.matcher(text);
        while (one.find()) {
            told.add(one.group(1));
        }
        Set<String> there = new TreeSet<>();
        try (Stream<Path> files = Files.list(Path.of("src/test/java"))) {
            files.map(file -> file.getFileName().toString()).filter(name -> name.endsWith("Test.java"))
                    .forEach(name -> there.add(name.substring(0, name.length() - ".java".length())));
        }
        CHECK.holds("the list tells each test: " + told, told.equals(there));
    }
}
