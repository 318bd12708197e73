import java.io.IOException;
import java.lang.reflect.InvocationTargetException;
import java.lang.reflect.Method;
import java.lang.reflect.Modifier;
import java.nio.charset.StandardCharsets;
import java.nio.file.Files;
import java.nio.file.Path;
import java.util.Arrays;
import java.util.List;
import java.util.regex.MatchResult;
import java.util.regex.Matcher;
import java.util.regex.Pattern;

/** What README.md says: its examples answer as they tell, and of the calls only those that it names change something. */
final class ReadmeTest {
    private static final Pattern CALL = Pattern.compile("gate\\.(\\w+)\\((.*)\\); +// (-?\\d+)(?:[: ].*)?");
    private static final int[] VALUES = {-1, 0, 1, 2, 3, 4, 5, 9, 10, 12, 99, 1000};

    private final Due due = new Due();
    private final String page;
    private WeighedGate gate;

    private ReadmeTest() throws IOException {
        page = Files.readString(Path.of("README.md"), StandardCharsets.UTF_8);
    }

    public static void main(String[] args) throws IOException {
        ReadmeTest test = new ReadmeTest();
        test.examples();
        test.askingChangesNothing();
        test.filesNamed();
        test.due.end();
    }

    private static List<String> found(String pattern, String text) {
        return Pattern.compile(pattern).matcher(text).results().map(result -> result.group(1)).toList();
    }

    private static Method named(String name) {
        for (Method method : WeighedGate.class.getDeclaredMethods()) {
            if (method.getName().equals(name) && Modifier.isPublic(method.getModifiers())) {
                return method;
            }
        }
        return null;
    }

    private static long answer(WeighedGate gate, Method call, Object... args) {
        try {
            return ((Number) call.invoke(gate, args)).longValue();
        } catch (InvocationTargetException | IllegalAccessException thrown) {
            throw new IllegalStateException(call + " of " + Arrays.toString(args), thrown);
        }
    }

    private void examples() {
        List<String> blocks = found("(?s)```java\\n(.*?)```", page);
        due.is("examples", 4, blocks.size());
        for (String block : blocks) {
            gate = null;
            block.lines().forEach(this::example);
        }
    }

    private void example(String line) {
        if (line.equals("WeighedGate gate = new WeighedGate();")) {
            gate = new WeighedGate();
            return;
        }
        Matcher matcher = CALL.matcher(line);
        boolean isCall = matcher.matches() && named(matcher.group(1)) != null && gate != null;
        due.holds(line + " can be run", isCall);
        if (isCall) {
            String told = matcher.group(2);
            Object[] args = told.isEmpty() ? new Object[0]
                : Pattern.compile("'(.)'|-?\\d+").matcher(told).results().map(ReadmeTest::number).toArray();
            due.is(line, Long.parseLong(matcher.group(3)), answer(gate, named(matcher.group(1)), args));
        }
    }

    private static Object number(MatchResult told) {
        return told.group(1) == null ? Integer.valueOf(told.group()) : Integer.valueOf(told.group(1).charAt(0));
    }

    private void askingChangesNothing() {
        List<String> sentence = found("(?s)These calls change something: (.*?)\\. All others only ask", page);
        due.is("the sentence of what changes", 1, sentence.size());
        List<String> changing = found("`(\\w+)`", sentence.toString());
        due.is("calls that change something", 15, changing.size());
        for (String name : changing) {
            due.holds(name + " is a call", named(name) != null);
        }
        WeighedGate full = full();
        String was = Gates.told(full);
        for (Method call : WeighedGate.class.getDeclaredMethods()) {
            if (Modifier.isPublic(call.getModifiers()) && !changing.contains(call.getName())) {
                askMany(full, call);
                due.holds(call.getName() + " changes nothing", was.equals(Gates.told(full)));
            }
        }
    }

    private static void askMany(WeighedGate gate, Method call) {
        Object[] args = new Object[call.getParameterCount()];
        for (int k = 0; k < 150; k++) {
            int rest = k * 48271;
            for (int i = 0; i < args.length; i++) {
                args[i] = VALUES[rest % VALUES.length];
                rest /= VALUES.length;
            }
            answer(gate, call, args);
        }
    }

    private static WeighedGate full() {
        WeighedGate gate = Gates.withStones(1, 3, 9);
        for (int c = 0; c < 8; c++) {
            gate.cart(c % 2, c % 6, 5 + c, 40 + c, 1);
            gate.set(c, 0, c % 3);
        }
        Due.read(gate, "may many < 4;fine off;toll 1;");
        Due.tell(gate, 0, 0, 3, 1, 12);
        gate.sheet(1, 0, 5);
        gate.feed(3, 'm', 'a', 'y', 0, 0);
        return gate;
    }

    private void filesNamed() {
        for (String name : found("`([\\w./]*/[\\w./]+)`", page)) {
            due.holds(name + " is there", Files.exists(Path.of(name)));
        }
        for (String name : found("`(\\w+Test|GateModel)`", page)) {
            due.holds(name + " is there", Files.exists(Path.of("src/test/java/" + name + ".java")));
        }
        due.holds(".ci/run is there", page.contains("\n    .ci/run\n") && Files.isExecutable(Path.of(".ci/run")));
    }
}
