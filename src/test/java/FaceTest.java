import java.io.IOException;
import java.lang.reflect.Constructor;
import java.lang.reflect.Field;
import java.lang.reflect.Method;
import java.lang.reflect.Modifier;
import java.nio.charset.StandardCharsets;
import java.nio.file.Files;
import java.nio.file.Path;
import java.util.ArrayList;
import java.util.List;
import java.util.Map;
import java.util.Set;
import java.util.TreeMap;
import java.util.TreeSet;
import java.util.regex.MatchResult;
import java.util.regex.Pattern;

/** The public face, as ../shared/DOC.md itself writes it, beside the class's source and what it compiles to. */
final class FaceTest {
    private static final String CONSTANT_LINE = "public static final ";
    private static final String CONSTRUCTOR = "public WeighedGate()";

    private final Due due = new Due();
    private final String document;
    private final String source;
    private final List<String> constants = new ArrayList<>();
    private final List<String> calls = new ArrayList<>();

    private FaceTest() throws IOException {
        document = Files.readString(Path.of("../shared/DOC.md"), StandardCharsets.UTF_8);
        source = Files.readString(Path.of("src/main/java/WeighedGate.java"), StandardCharsets.UTF_8);
    }

    public static void main(String[] args) throws IOException {
        FaceTest test = new FaceTest();
        test.readFace();
        test.exactSignatures();
        test.nothingElse();
        test.constantsTold();
        test.promisesInOrder();
        test.groups();
        test.due.end();
    }

    private static List<String> found(String pattern, String text) {
        return Pattern.compile(pattern).matcher(text).results().map(result -> result.group(1)).toList();
    }

    private void readFace() {
        String face = found("(?s)## The public face\\s+```java\\n(.*?)```", document).get(0);
        due.holds("the class's line", source.contains("\n" + face.lines().findFirst().get() + "\n"));
        for (String line : found("(?m)^ {4}(.*);$", face)) {
            (line.startsWith(CONSTANT_LINE) ? constants : calls).add(line);
        }
        due.is("lines of constants", 2, constants.size());
        due.is("the constructor and methods", 40, calls.size());
        due.holds("the constructor", calls.get(0).equals(CONSTRUCTOR));
    }

    private void exactSignatures() {
        for (String line : constants) {
            due.holds(line + " stands so in the source", source.contains("\n    " + line + ";\n"));
        }
        for (String line : calls) {
            due.holds(line + " stands so in the source", source.contains("\n    " + line + " {\n"));
        }
        due.is("public methods in the source", calls.size() - 1,
            found("(?m)^ {4}(public \\w+ \\w+\\(.*)$", source).size());
    }

    /** Types and names of a line's parameters, as reflection tells them: types alone. */
    private static String plain(String line) {
        return line.replaceAll("(int|long) \\w+(?=[,)])", "$1").replace(", ", ",");
    }

    private void nothingElse() {
        Set<String> open = new TreeSet<>();
        for (Method method : WeighedGate.class.getDeclaredMethods()) {
            if (!Modifier.isPrivate(method.getModifiers())) {
                open.add(method.toString().replace("WeighedGate.", ""));
            }
        }
        for (Constructor<?> constructor : WeighedGate.class.getDeclaredConstructors()) {
            open.add(constructor.toString());
        }
        Set<String> told = new TreeSet<>();
        for (String line : calls) {
            told.add(plain(line));
        }
        due.holds("what is open is what the document tells: " + open, open.equals(told));
        due.is("the class, public and final", Modifier.PUBLIC | Modifier.FINAL, WeighedGate.class.getModifiers());
        due.holds("above it is nothing", WeighedGate.class.getSuperclass() == Object.class
            && WeighedGate.class.getInterfaces().length == 0);
    }

    private void constantsTold() {
        Map<String, Long> told = new TreeMap<>();
        for (String line : constants) {
            List<MatchResult> each = Pattern.compile("(\\w+) = (-?\\d+)L?").matcher(line).results().toList();
            each.forEach(one -> told.put((line.contains(" long ") ? "long " : "int ") + one.group(1),
                Long.parseLong(one.group(2))));
        }
        due.is("constants", 5, told.size());
        Map<String, Long> open = new TreeMap<>();
        for (Field field : WeighedGate.class.getDeclaredFields()) {
            if (!Modifier.isPrivate(field.getModifiers())) {
                due.is(field.getName(), Modifier.PUBLIC | Modifier.STATIC | Modifier.FINAL, field.getModifiers());
                open.put(field.getType() + " " + field.getName(), valueOf(field));
            }
        }
        due.holds("the constants' values: " + open, open.equals(told));
    }

    private long valueOf(Field field) {
        try {
            return field.getLong(null);
        } catch (IllegalAccessException closed) {
            due.holds(field + " can be read", false);
            return 0;
        }
    }

    /** Each promise bears the signature that the face tells, in the face's order. */
    private void promisesInOrder() {
        List<String> promised = found("## Promise \\d+: .*\\s+`([^`]*)`: ", document);
        due.is("promises", calls.size(), promised.size());
        for (int i = 0; i < promised.size(); i++) {
            due.holds(promised.get(i) + " is promise " + (i + 1), calls.get(i).equals("public " + promised.get(i)));
        }
    }

    /** What the interface says ahead of some calls stands ahead of just these in the source. */
    private void groups() {
        List<String> lines = found("(?m)^(Ahead of the calls .*)$", document);
        due.is("groups of calls", 8, lines.size());
        for (String line : lines) {
            String heading = found("the interface says: (---- .*)\\.$", line).get(0);
            List<String> parts = found("(?s)// " + Pattern.quote(heading) + "\\n(.*?)\\n    // ----", source);
            due.is(heading + " stands in the source", 1, parts.size());
            due.holds(heading + " stands ahead of its calls", parts.size() == 1
                && found("(?m)^    public \\w+ (\\w+)\\(", parts.get(0)).equals(found("`(\\w+)`", line)));
        }
    }
}
