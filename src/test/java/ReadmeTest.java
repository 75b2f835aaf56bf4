import java.io.IOException;
import java.nio.file.Files;
import java.nio.file.Path;
import java.util.ArrayList;
import java.util.List;
import java.util.Map;
import java.util.Set;
import java.util.TreeSet;
import java.util.regex.Matcher;
import java.util.regex.Pattern;

/** What README.md says is so: its example's answers, its rows of calls and of tests; run from the project's folder. */
public final class ReadmeTest {
    private static final Check check = new Check();
    private static final Map<String, Integer> NAMED = Map.of("UNKNOWN", -1, "OUTSIDE", -2, "STATE", -3,
        "FULL", -4, "NO", -5, "NONE", -6);

    public static void main(String[] args) throws IOException {
        String readme = Files.readString(Path.of("README.md"));
        String document = Files.readString(Path.of("../shared/DOC.md"));
        Set<String> called = exampleAnswers(readme);
        for (String call : callsOf(document)) {
            check.holds("README.md has a row for " + call, readme.contains("\n| `" + call + "` |"));
            check.holds("its example has " + call, called.contains(call.split("\\(")[0]));
        }
        refusals(readme);
        tests(readme);
        check.holds(".ci/run can be run", Files.isExecutable(Path.of(".ci/run")));
        check.end();
    }

    /** Makes the calls of the example, and tells which there were. */
    private static Set<String> exampleAnswers(String readme) {
        Matcher block = Pattern.compile("(?s)```java\n(.*?)```").matcher(readme);
        check.holds("README.md has an example", block.find());
        Set<String> called = new TreeSet<>();
        String[] lines = block.group(1).split("\n");
        check.due("the example's first line makes a ledger",
            lines[0].equals("TapLedger ledger = new TapLedger();") ? 1 : 0, 1);
        TapLedger ledger = new TapLedger();
        Pattern form = Pattern.compile("ledger\\.(\\w+)\\(([-0-9, ]+)\\); +// (-?\\d+|[A-Z]+): .+");
        for (int i = 1; i < lines.length; i++) {
            Matcher line = form.matcher(lines[i]);
            check.holds("a call and its answer: " + lines[i], line.matches());
            if (line.matches()) {
                Call call = new Call(line.group(1), numbers(line.group(2)));
                check.due("README.md: " + call, call.on(ledger), number(line.group(3)));
                called.add(call.name());
            }
        }
        return called;
    }

    private static int[] numbers(String list) {
        String[] parts = list.split(", ");
        int[] numbers = new int[parts.length];
        for (int i = 0; i < parts.length; i++) {
            numbers[i] = Integer.parseInt(parts[i]);
        }
        return numbers;
    }

    private static int number(String text) {
        Integer named = NAMED.get(text);
        return named != null ? named : Integer.parseInt(text);
    }

    /** The methods of the document's face, as "zone(station, n)". */
    private static List<String> callsOf(String document) {
        List<String> calls = new ArrayList<>();
        Matcher face = Pattern.compile("public int (\\w+\\([^)]*\\));").matcher(document);
        while (face.find()) {
            calls.add(face.group(1).replace("int ", ""));
        }
        check.due("methods of the document's face", calls.size(), 17);
        return calls;
    }

    private static void refusals(String readme) {
        for (Map.Entry<String, Integer> named : NAMED.entrySet()) {
            String told = "`" + named.getKey() + "` (" + named.getValue() + ")";
            check.holds("README.md tells " + told, readme.contains(told));
        }
    }

    private static void tests(String readme) throws IOException {
        Set<String> there = new TreeSet<>();
        try (var files = Files.newDirectoryStream(Path.of("src/test/java"), "*Test.java")) {
            for (Path file : files) {
                there.add(file.getFileName().toString().replace(".java", ""));
            }
        }
        Set<String> told = new TreeSet<>();
        Matcher name = Pattern.compile("`(\\w+Test)`").matcher(readme.substring(readme.indexOf("| test |")));
        while (name.find()) {
            told.add(name.group(1));
        }
        check.holds("README.md tells the tests " + there + ", not " + told, told.equals(there));
    }
}
