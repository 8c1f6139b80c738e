import java.io.IOException;
import java.nio.file.Files;
import java.nio.file.Path;
import java.util.HashMap;
import java.util.Map;

/**
 * The document, sentence by sentence: a test says which words it looks at, and these must stand in the
 * document; at its end no word of the parts that it is about may be left out.
 */
final class Sentences {
    /** The part ahead of the promises: terms, and what holds for all calls. */
    static final int TERMS = 0;

    private static final Map<Integer, String> PARTS = new HashMap<>();
    private static final Map<Integer, boolean[]> QUOTED = new HashMap<>();
    private static int promise;
    private static String sentence;

    private Sentences() {
    }

    /** From here on this is the sentence that is looked at. */
    static void of(int number, String words) {
        promise = number;
        sentence = words;
        String part = part(number);
        boolean[] quoted = QUOTED.computeIfAbsent(number, n -> new boolean[part.length()]);
        int at = part.indexOf(words);
        Check.holds("promise " + number + " says: " + words, at >= 0);
        for (; at >= 0; at = part.indexOf(words, at + 1)) {
            java.util.Arrays.fill(quoted, at, at + words.length(), true);
        }
    }

    static void due(String call, long got, long want) {
        Check.due(promise, call + " (" + sentence + ")", got, want);
    }

    static void holds(String what, boolean so) {
        Check.holds("promise " + promise + ": " + what + " (" + sentence + ")", so);
    }

    static void end(String test, int first, int last) {
        for (int number = first; number <= last; number++) {
            String part = part(number);
            boolean[] quoted = QUOTED.getOrDefault(number, new boolean[part.length()]);
            StringBuilder left = new StringBuilder();
            for (int k = 0; k < part.length(); k++) {
                left.append(quoted[k] || !Character.isLetterOrDigit(part.charAt(k)) ? ' ' : part.charAt(k));
            }
            String words = left.toString().trim().replaceAll(" +", " ");
            Check.holds("promise " + number + " has no words without a test: " + words, words.isEmpty());
        }
        Check.end(test);
    }

    private static String part(int number) {
        return PARTS.computeIfAbsent(number, n -> n == TERMS ? terms() : promised(n));
    }

    private static String terms() {
        String head = between(document(), "======== 1 ", "Ahead of the calls");
        return head.replaceAll("## The public face ```java .*? ```", " ").replace("## Terms", " ").replace("```text", " ")
            .replace("======== 2 ", " ");
    }

    private static String promised(int number) {
        String from = between(document(), "## Promise " + number + ": ", "## ");
        return from.substring(from.indexOf("`: ") + 2);
    }

    private static String between(String text, String begin, String end) {
        int at = text.indexOf(begin);
        if (at < 0) {
            throw new IllegalStateException("the document has no " + begin);
        }
        int from = at + begin.length();
        int to = text.indexOf(end, from);
        return text.substring(from, to < 0 ? text.length() : to);
    }

    private static String document() {
        try {
            return Files.readString(Path.of("../shared/DOC.md")).replaceAll("\\s+", " ");
        } catch (IOException e) {
            throw new IllegalStateException("there is no ../shared/DOC.md", e);
        }
    }
}
