import java.io.IOException;
import java.lang.reflect.Field;
import java.lang.reflect.Method;
import java.lang.reflect.Modifier;
import java.nio.charset.StandardCharsets;
import java.nio.file.Files;
import java.nio.file.Path;
import java.util.ArrayList;
import java.util.List;
import java.util.Set;
import java.util.TreeSet;
import java.util.regex.Matcher;
import java.util.regex.Pattern;

/** What can be seen of ../shared/LANGUAGE.md from the file and from the class that it becomes. */
final class LanguageTest {
    private static final String[] FORBIDDEN = {
        "\\bthrow\\b", "\\btry\\b", "\\bcatch\\b", "\\bsynchronized\\b", "\\bassert\\b", "\\bimport\\b", "\\bpackage\\b",
        "->", "::", "\\bstatic\\s*\\{", "\\w+Exact\\b", "\\bequals\\b", "\\bhashCode\\b", "\\btoString\\b", "\\bprotected\\b",
        "\\bgetClass\\b", "\\bSystem\\.(?!arraycopy\\b)", "\\bRandom\\b", "\\bThread\\b", "\\bvar\\b", "\\bObject\\b",
        "\\bnative\\b", "\\bvolatile\\b", "\\byield\\b", "@\\w+",
    };

    private final Due due = new Due();
    private final Set<String> publicNames = new TreeSet<>();

    public static void main(String[] args) throws IOException {
        LanguageTest test = new LanguageTest();
        test.names();
        test.fields();
        test.inside();
        test.source();
        test.due.end();
    }

    private void names() {
        for (Method method : WeighedGate.class.getDeclaredMethods()) {
            if (Modifier.isPublic(method.getModifiers())) {
                publicNames.add(method.getName());
                due.holds(method + " is no static one", !Modifier.isStatic(method.getModifiers()));
            }
        }
        for (Method method : WeighedGate.class.getDeclaredMethods()) {
            if (!Modifier.isPublic(method.getModifiers())) {
                due.holds(method + " bears a name of its own", !publicNames.contains(method.getName()));
            }
        }
    }

    private void fields() {
        int own = 0;
        for (Field field : WeighedGate.class.getDeclaredFields()) {
            int modifiers = field.getModifiers();
            due.holds(field + " is final, if static", !Modifier.isStatic(modifiers) || Modifier.isFinal(modifiers));
            own += Modifier.isStatic(modifiers) ? 0 : 1;
        }
        due.holds("not too many fields", own <= 20);
    }

    private void inside() {
        Class<?>[] inside = WeighedGate.class.getDeclaredClasses();
        due.holds("not too many classes", inside.length < 12);
        for (Class<?> one : inside) {
            due.holds(one + " is static", Modifier.isStatic(one.getModifiers()));
            due.holds(one + " is not public", !Modifier.isPublic(one.getModifiers()));
            int own = 0;
            for (Field field : one.getDeclaredFields()) {
                boolean isStatic = Modifier.isStatic(field.getModifiers());
                due.holds(field + " is final, if static", !isStatic || Modifier.isFinal(field.getModifiers()));
                own += isStatic ? 0 : 1;
            }
            due.holds("not too many fields in " + one, own <= 20);
            for (Method method : one.getDeclaredMethods()) {
                due.holds(method + " bears a name of its own", !publicNames.contains(method.getName()));
                due.holds(method + " has at most seven parameters", method.getParameterCount() <= 7);
            }
        }
    }

    private void source() throws IOException {
        String source = Files.readString(Path.of("src/main/java/WeighedGate.java"), StandardCharsets.UTF_8);
        due.holds("plain signs", source.chars().allMatch(c -> c == '\n' || c >= 32 && c < 127));
        String code = source.replaceAll("(?s)/\\*.*?\\*/", "").replaceAll("//[^\n]*", "");
        for (String word : FORBIDDEN) {
            Matcher matcher = Pattern.compile(word).matcher(code);
            due.holds("no " + word, !matcher.find());
        }
        methodsAreShort(code);
    }

    private void methodsAreShort(String code) {
        List<String> lines = new ArrayList<>(List.of(code.split("\n")));
        Pattern head = Pattern.compile("^( {4}| {8})(?:(?:public|private|static) )*[\\w\\[\\]]+(?: \\w+)?\\([^)]*\\) \\{$");
        int seen = 0;
        for (int i = 0; i < lines.size(); i++) {
            Matcher matcher = head.matcher(lines.get(i));
            if (matcher.find()) {
                int end = lines.subList(i, lines.size()).indexOf(matcher.group(1) + "}");
                due.holds(lines.get(i).trim() + " is short", end > 0 && end <= 60);
                seen++;
            }
        }
        due.holds("methods were seen", seen > 100);
    }
}
