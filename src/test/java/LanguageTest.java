import java.lang.reflect.Field;
import java.lang.reflect.Method;
import java.lang.reflect.Modifier;
import java.nio.file.Files;
import java.nio.file.Path;
import java.util.ArrayList;
import java.util.List;
import java.util.Set;
import java.util.regex.Matcher;
import java.util.regex.Pattern;

/** What LANGUAGE.md rules out, as far as the compiled class and its text show it; run from the project's folder. */
public final class LanguageTest {
    private static final Check check = new Check();
    private static final Set<Class<?>> CONSTANTS = Set.of(int.class, long.class, boolean.class, char.class,
        String.class, int[].class, long[].class, char[].class, byte[].class);
    private static final String METHOD = "\\s+[^=;]*\\)\\s*\\{";
    private static final String NO_METHOD = "\\s+(if|for|while|switch|\\}).*";

    public static void main(String[] args) throws Exception {
        String source = Files.readString(Path.of("src/main/java/TapLedger.java"));
        String code = source.replaceAll("(?s)/\\*.*?\\*/", "").replaceAll("//[^\n]*", "");
        String[] banned = {
            "\\bpackage\\b", "\\bimport\\b", "\\bthrow\\b", "\\bthrows\\b", "\\btry\\b", "\\bcatch\\b",
            "\\bsynchronized\\b", "\\bassert\\b", "->", "::", "\\bprotected\\b", "Exact\\b", "\\bequals\\b",
            "\\bhashCode\\b", "\\btoString\\b", "\\bSystem\\.(?!arraycopy)", "\\bObject\\b", "static\\s*\\{",
            "\\[\\]\\s*\\[\\]", "\\bjava\\.",
            "\\bnew \\w+\\([^;]*\\)\\s*\\{"
        };
        for (String word : banned) {
            Matcher found = Pattern.compile(word).matcher(code);
            check.holds("no " + word + " in the class", !found.find());
        }
        for (char sign : source.toCharArray()) {
            if (sign > 127) {
                check.holds("signs are 1 to 127, not " + (int) sign, false);
            }
        }
        methodsStayShort(code);
        constructorsMakeAll(code);
        for (Class<?> type : allClasses()) {
            classStaysSmall(type);
            staticFieldsAreConstants(type);
        }
        check.end();
    }

    private static List<Class<?>> allClasses() {
        List<Class<?>> all = new ArrayList<>(List.of(TapLedger.class.getDeclaredClasses()));
        all.add(TapLedger.class);
        return all;
    }

    private static void classStaysSmall(Class<?> type) {
        int fields = 0;
        for (Field field : type.getDeclaredFields()) {
            fields += Modifier.isStatic(field.getModifiers()) ? 0 : 1;
        }
        check.holds(type + " has at most twenty fields beside its constants", fields <= 20);
        for (Method method : type.getDeclaredMethods()) {
            check.holds(method + " takes at most seven parameters", method.getParameterCount() <= 7);
        }
    }

    private static void staticFieldsAreConstants(Class<?> type) {
        for (Field field : type.getDeclaredFields()) {
            if (Modifier.isStatic(field.getModifiers())) {
                check.holds(field + " is a constant",
                    Modifier.isFinal(field.getModifiers()) && CONSTANTS.contains(field.getType()));
            }
        }
    }

    /** All calls of a run live in one room, so no call may make an object: only constructors and fields do. */
    private static void constructorsMakeAll(String code) {
        boolean inConstructor = false;
        for (String text : code.split("\n")) {
            if (text.matches(METHOD) && !text.matches(NO_METHOD)) {
                inConstructor = text.matches("\\s+(public )?[A-Z]\\w*\\(.*");
            }
            boolean ofField = text.matches("\\s+private final \\w+ \\w+ = new \\w+\\(.*");
            if (text.matches(".*\\bnew\\b.*")) {
                check.holds("a constructor or a field makes it: " + text.strip(), inConstructor || ofField);
            }
        }
    }

    private static void methodsStayShort(String code) {
        int from = 0;
        int line = 0;
        for (String text : code.split("\n")) {
            line++;
            if (text.matches(METHOD) && !text.matches(NO_METHOD)) {
                from = line;
            }
            if (text.matches(" {4}( {4})?\\}") && from > 0) {
                check.holds("the method that ends at line " + line + " has at most sixty lines", line - from < 60);
                from = 0;
            }
        }
    }
}
