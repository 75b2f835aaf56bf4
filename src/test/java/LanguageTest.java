import java.nio.file.Files;
import java.nio.file.Path;
import java.util.regex.Matcher;
import java.util.regex.Pattern;

/** What LANGUAGE.md rules out and the text of the class alone can show; run from the project's folder. */
public final class LanguageTest {
    private static final Check check = new Check();

    public static void main(String[] args) throws Exception {
        String source = Files.readString(Path.of("src/main/java/TapLedger.java"));
        String code = source.replaceAll("(?s)/\\*.*?\\*/", "").replaceAll("//[^\n]*", "");
        String[] banned = {
            "\\bpackage\\b", "\\bimport\\b", "\\bthrow\\b", "\\bthrows\\b", "\\btry\\b", "\\bcatch\\b",
            "\\bsynchronized\\b", "\\bassert\\b", "->", "::", "\\bprotected\\b", "Exact\\b", "\\bequals\\b",
            "\\bhashCode\\b", "\\btoString\\b", "\\bSystem\\.(?!arraycopy)", "\\bObject\\b", "static\\s*\\{",
            "\\[\\]\\s*\\[\\]", "\\bjava\\."
        };
        for (String word : banned) {
            Matcher found = Pattern.compile(word).matcher(code);
            check.holds("no " + word + " in the class", !found.find());
        }
        for (char sign : source.toCharArray()) {
            if (sign > 127) {
                check.holds("signs are 1 to 127, not " + (int) sign, false);
            }
        }
        methodsStayShort(code);
        check.end();
    }

    private static void methodsStayShort(String code) {
        int from = 0;
        int line = 0;
        for (String text : code.split("\n")) {
            line++;
            if (text.matches("\\s+[^=;]*\\)\\s*\\{") && !text.matches("\\s+(if|for|while|switch|\\}).*")) {
                from = line;
            }
            if (text.matches(" {4}( {4})?\\}") && from > 0) {
                check.holds("the method that ends at line " + line + " has at most sixty lines", line - from < 60);
                from = 0;
            }
        }
    }
}
