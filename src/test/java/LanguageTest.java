import java.io.IOException;
import java.nio.file.Files;
import java.nio.file.Path;
import java.util.regex.Matcher;
import java.util.regex.Pattern;

/** What a look at the text can tell of ../shared/LANGUAGE.md; run from the project's root. */
public final class LanguageTest {
    private static final Path SOURCE = Path.of("src/main/java/GiftLots.java");
    /** None of these is needed by the class, so each is kept out, allowed or not. */
    private static final String[] KEPT_OUT = {
        "package", "try", "catch", "finally", "throw", "throws", "synchronized", "assert", "instanceof",
        "double", "float", "System\\.(?!arraycopy)", "\\w+Exact", "Object", "Random", "Thread", "native",
        "protected", "transient", "volatile", "->", "::", "\"", "Integer\\.(?!bitCount)", "Math", "enum", "record"};

    private static final Due due = new Due();

    public static void main(String[] args) throws IOException {
        due.about(SOURCE.toString());
        String text = Files.readString(SOURCE);
        due.holds("it holds a sign beyond 126", text.chars().allMatch(sign -> sign < 127));
        String code = text.replaceAll("(?s)/\\*.*?\\*/", " ").replaceAll("//[^\n]*", " ");
        for (String word : KEPT_OUT) {
            String pattern = Character.isLetter(word.charAt(0)) ? "\\b" + word + (word.endsWith(")") ? "" : "\\b") : word;
            due.holds("it uses " + word, !Pattern.compile(pattern).matcher(code).find());
        }
        Matcher imports = Pattern.compile("import ([^;]*);").matcher(code);
        while (imports.find()) {
            due.holds("it imports " + imports.group(1), imports.group(1).equals("java.util.Arrays"));
        }
        makesOnlyInConstructor(code);
        due.end();
    }

    /** The room is for all calls of a run together, so no call makes anything. */
    private static void makesOnlyInConstructor(String code) {
        int begin = code.indexOf("public GiftLots() {");
        int end = code.indexOf("}", begin);
        due.holds("there is no constructor", begin >= 0 && end > begin);
        Matcher made = Pattern.compile("\\bnew\\b|\\.clone\\(|copyOf").matcher(code);
        while (made.find()) {
            due.holds("it makes something outside its constructor", made.start() > begin && made.start() < end);
        }
    }
}
