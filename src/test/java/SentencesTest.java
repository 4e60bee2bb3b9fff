import java.io.IOException;
import java.lang.reflect.Method;
import java.nio.file.Files;
import java.nio.file.Path;
import java.util.Arrays;

/**
 * Whether the tests of sentences leave one out: each quote stands in the document, in its promise or in its terms, and
 * all words of the promises and of the terms are quoted by some test.
 */
public final class SentencesTest {
    private static final int PROMISES = 47;
    private static final Check CHECK = new Check();
    private static String document;
    private static boolean[] quoted;

    public static void main(String[] args) throws IOException {
        Path path = Path.of("../shared/DOC.md");
        if (!Files.exists(path)) {
            // The answers are tested all the same; quotes can be compared where the document is.
            System.out.println("SentencesTest: there is no " + path);
            return;
        }
        document = Files.readString(path).replaceAll("\\s+", " ");
        quoted = new boolean[document.length()];
        for (Class<?> tests : Sentences.ALL) {
            for (Method method : Sentences.testsOf(tests)) {
                testQuotes(method);
            }
        }
        testRange("Terms", startOf("## Terms") + 8, startOf("## Promise 1:"));
        for (int promise = 1; promise <= PROMISES; promise++) {
            int from = startOf("## Promise " + promise + ":");
            testRange("promise " + promise, document.indexOf("`: ", from) + 3, endOf(promise));
        }
        CHECK.end("SentencesTest");
    }

    private static int startOf(String heading) {
        int at = document.indexOf(heading);
        CHECK.yes(heading + " is there", at >= 0);
        return at;
    }

    private static int endOf(int promise) {
        return document.indexOf("## ", startOf("## Promise " + promise + ":") + 3);
    }

    private static void testQuotes(Method method) {
        String name = method.getName();
        CHECK.yes(name + " has a promise's number", name.matches("p(0[1-9]|[1-4][0-9])[A-Z]\\w*"));
        int promise = Integer.parseInt(name.substring(1, 3));
        int from = startOf("## Promise " + promise + ":");
        for (String words : method.getAnnotation(Says.class).value()) {
            boolean inPromise = quote(words, from, endOf(promise));
            boolean inTerms = quote(words, startOf("## Terms"), startOf("## Promise 1:"));
            CHECK.yes(name + " quotes its promise or the terms: " + words, inPromise || inTerms);
        }
    }

    private static boolean quote(String words, int from, int to) {
        int at = document.indexOf(words, from);
        if (at < 0 || at + words.length() > to) {
            return false;
        }
        Arrays.fill(quoted, at, at + words.length(), true);
        return true;
    }

    private static void testRange(String where, int from, int to) {
        StringBuilder left = new StringBuilder();
        for (int i = from; i < to; i++) {
            left.append(quoted[i] ? '|' : document.charAt(i));
        }
        for (String piece : left.toString().split("\\|+")) {
            String words = piece.replaceAll("```(text)?|====( \\d\\.?)?", "").trim();
            CHECK.no(where + ", no test quotes: " + words, words.matches(".*[A-Za-z0-9].*"));
        }
    }
}
