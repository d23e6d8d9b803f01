import java.io.IOException;
import java.nio.file.Files;
import java.nio.file.Path;
import java.util.regex.Pattern;

/** What LANGUAGE.md rules out and a look at the words of the program can find; run from the project's folder. */
final class LanguageTest {
    private static final String[] WORDS = {
        "import", "package", "try", "catch", "finally", "synchronized", "assert", "protected", "volatile", "native",
        "lambda", "Object", "Throwable", "Exception", "hashCode", "toString", "getMessage", "var", "yield"
    };
    private static final String[] SIGNS = {"->", "::", "@", "Exact(", "System.currentTime", "System.nano", "[][][]"};

    public static void main(String[] args) throws IOException {
        String text = Files.readString(Path.of("src/main/java/RadixPages.java"));
        String code = text.replaceAll("(?s)/\\*.*?\\*/", "").replaceAll("//[^\n]*", "");
        for (String word : WORDS) {
            Checks.due("the word " + word, Pattern.compile("\\b" + word + "\\b").matcher(code).find() ? 1 : 0, 0);
        }
        for (String sign : SIGNS) {
            Checks.due("the sign " + sign, code.contains(sign) ? 1 : 0, 0);
        }
        Checks.due("public classes", code.split("public final class ", -1).length - 1, 1);
        Checks.due("classes, twelve at most", code.split("\\bclass ", -1).length - 1 <= 12 ? 1 : 0, 1);
        Checks.end();
    }
}
