import java.io.IOException;
import java.nio.charset.StandardCharsets;
import java.nio.file.Files;
import java.nio.file.Path;
import java.util.Arrays;
import java.util.Map;
import java.util.TreeMap;
import java.util.function.IntToLongFunction;
import java.util.regex.Matcher;
import java.util.regex.Pattern;

/**
 * The document's sentences. A test names a promise and one of its sentences, word for word, and then asks what
 * would not be answered so if that sentence were broken. At the end every word of "What it is", of the terms and of
 * the forty promises must have been named.
 */
final class Sentences {
    static final int TERMS = 0;
    static final int WHAT_IT_IS = -1;
    private static final int NO_SECTION = -2;
    private static final int PROMISES = 40;

    /** What the document says of one promise, and which signs of it have been named. */
    private record Section(String words, boolean[] named) { }

    private final Due due = new Due();
    private final Map<Integer, Section> sections = new TreeMap<>();
    private String now = "";
    private int askedNow = 1;

    Sentences(Path document) throws IOException {
        String text = Files.readString(document, StandardCharsets.UTF_8);
        for (String part : text.split("(?m)^## ")) {
            int lineEnd = part.indexOf('\n');
            int number = numberOf(part.substring(0, Math.max(0, lineEnd)));
            if (number != NO_SECTION) {
                String words = plain(part.substring(lineEnd));
                sections.put(number, new Section(words, new boolean[words.length()]));
            }
        }
    }

    private static int numberOf(String heading) {
        Matcher promise = Pattern.compile("Promise (\\d+):.*").matcher(heading);
        if (promise.matches()) {
            return Integer.parseInt(promise.group(1));
        }
        if (heading.equals("Terms")) {
            return TERMS;
        }
        return heading.equals("What it is") ? WHAT_IT_IS : NO_SECTION;
    }

    /** The words alone: no signature ahead of a promise, no signs of the page, single blanks. */
    private static String plain(String part) {
        return part.replaceAll("(?m)^Ahead of the calls .*$", "").replaceAll("(?m)^```\\w*$", "")
            .replaceAll("(?m)^======== \\d", "").replaceAll("\\s+", " ").trim().replaceFirst("^`[^`]*`: ", "");
    }

    /** Names the sentence that the answers to come are due by. */
    void of(int promise, String sentence) {
        endOne();
        String where = promise == TERMS ? "terms" : promise == WHAT_IT_IS ? "what it is" : "promise " + promise;
        now = where + ", \"" + sentence + "\"";
        askedNow = 0;
        Section section = sections.get(promise);
        int at = section == null ? -1 : section.words.indexOf(sentence);
        due.holds(now + " stands in the document, once", at >= 0 && at == section.words.lastIndexOf(sentence));
        if (at >= 0) {
            Arrays.fill(section.named, at, at + sentence.length(), true);
        }
    }

    private void endOne() {
        due.holds(now + " was asked", askedNow > 0);
    }

    void is(String call, long want, long got) {
        askedNow++;
        due.is(now + ": " + call, want, got);
    }

    void holds(String what, boolean so) {
        is(what, 1, so ? 1 : 0);
    }

    /** The same answer is due to one call with each of some values. */
    void each(String call, long want, IntToLongFunction asked, int... values) {
        for (int v : values) {
            is(call + " of " + v, want, asked.applyAsLong(v));
        }
    }

    /** The answers that are due to one call with 0, 1, and so on. */
    void row(String call, IntToLongFunction asked, long... wants) {
        for (int i = 0; i < wants.length; i++) {
            is(call + " of " + i, wants[i], asked.applyAsLong(i));
        }
    }

    void end() {
        endOne();
        for (int promise = WHAT_IT_IS; promise <= PROMISES; promise++) {
            Section section = sections.get(promise);
            due.is("words of promise " + promise + " that no test names: " + unnamed(section), 0,
                section == null ? 1 : unnamed(section).length());
        }
        due.end();
    }

    private static String unnamed(Section section) {
        if (section == null) {
            return "";
        }
        StringBuilder left = new StringBuilder();
        for (int i = 0; i < section.named.length; i++) {
            char sign = section.words.charAt(i);
            if (!section.named[i] && Character.isLetterOrDigit(sign)) {
                left.append(sign);
            }
        }
        return left.toString();
    }
}
