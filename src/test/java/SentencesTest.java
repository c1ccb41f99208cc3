import java.io.IOException;
import java.lang.reflect.Method;
import java.nio.file.Files;
import java.nio.file.Path;
import java.util.List;
import java.util.regex.Matcher;
import java.util.regex.Pattern;

/**
 * src/test/SENTENCES.md quotes the whole of the document, and has tests for each quote; run from the project's
 * root.
 */
public final class SentencesTest {
    private static final Path SENTENCES = Path.of("src/test/SENTENCES.md");
    private static final Path DOCUMENT = Path.of("../shared/DOC.md");
    private static final Pattern TEST = Pattern.compile("`(\\w+Test)(?:\\.(\\w+))?`");

    private static final Due due = new Due();

    public static void main(String[] args) throws IOException {
        due.about(SENTENCES.toString());
        List<String> lines = Files.readAllLines(SENTENCES);
        quotesAreTheDocument(lines);
        eachQuoteHasTests(lines);
        Matcher named = TEST.matcher(String.join("\n", lines));
        while (named.find()) {
            due.holds("there is no test " + named.group(), isTest(named.group(1), named.group(2)));
        }
        due.end();
    }

    private static void quotesAreTheDocument(List<String> lines) throws IOException {
        if (!Files.exists(DOCUMENT)) {
            System.out.println(DOCUMENT + " is not there to be compared");
            return;
        }
        StringBuilder quoted = new StringBuilder();
        for (String line : lines) {
            if (line.startsWith(">")) {
                quoted.append(line.substring(1)).append(' ');
            }
        }
        String[] has = words(quoted.toString());
        String[] wants = words(Files.readString(DOCUMENT));
        for (int at = 0; at < Math.max(has.length, wants.length); at++) {
            String got = at < has.length ? has[at] : "";
            String want = at < wants.length ? wants[at] : "";
            due.is("word " + at + " after '" + before(wants, at) + "'", got, want);
            if (!got.equals(want)) {
                return;
            }
        }
    }

    private static String[] words(String text) {
        return text.strip().split("\\s+");
    }

    private static String before(String[] words, int at) {
        StringBuilder text = new StringBuilder();
        for (int word = Math.max(0, at - 5); word < Math.min(at, words.length); word++) {
            text.append(word == Math.max(0, at - 5) ? "" : " ").append(words[word]);
        }
        return text.toString();
    }

    private static void eachQuoteHasTests(List<String> lines) {
        String quote = "";
        boolean isTested = true;
        boolean inQuote = false;
        for (String line : lines) {
            boolean quotes = line.startsWith(">");
            if (quotes && !inQuote) {
                due.holds("no test for: " + quote, isTested);
                quote = line;
                isTested = false;
            }
            isTested |= !quotes && (TEST.matcher(line).find() || line.startsWith("No test: "));
            inQuote = quotes;
        }
        due.holds("no test for: " + quote, isTested);
    }

    private static boolean isTest(String type, String test) {
        try {
            for (Method method : Class.forName(type).getDeclaredMethods()) {
                if (method.getName().equals(test == null ? "main" : test)) {
                    return true;
                }
            }
            return false;
        } catch (ClassNotFoundException none) {
            return false;
        }
    }
}
