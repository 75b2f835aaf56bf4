import java.io.IOException;
import java.nio.file.Files;
import java.nio.file.Path;

/** The document, whose sentences the tests quote, and a tally of which promises they were of. */
final class Book {
    static final int PROMISES = 18;
    private static final Path DOCUMENT = Path.of("../shared/DOC.md");

    private final Check check;
    private final String text;
    private final int[] sentences = new int[PROMISES + 1];

    Book(Check check) throws IOException {
        this.check = check;
        text = plain(Files.readString(DOCUMENT));
    }

    /** A test of one sentence, as far as the promise of this number is to keep it. */
    Sentence sentence(int promise, String words) {
        sentences[promise]++;
        check.holds("promise " + promise + " and the terms have the words \"" + words + "\"", stands(promise, words));
        return new Sentence(check, promise, words);
    }

    /** Each promise has a test at least; the tally is printed for the reader. */
    void end() {
        for (int promise = 1; promise <= PROMISES; promise++) {
            check.holds("promise " + promise + " has a test of its own", sentences[promise] > 0);
            System.out.println("promise " + promise + ": " + sentences[promise] + " sentences");
        }
    }

    /** Whether the words, told with " .. " for what is left out, stand in the promise or in what goes ahead of all. */
    private boolean stands(int promise, String words) {
        int first = text.indexOf("## Promise 1:");
        int from = text.indexOf("## Promise " + promise + ":");
        int to = text.indexOf("## ", from + 3);
        if (first < 0 || from < 0 || to < 0) {
            return false;
        }
        return hasAll(text.substring(0, first), words) || hasAll(text.substring(from, to), words);
    }

    private static boolean hasAll(String part, String words) {
        int at = 0;
        for (String piece : plain(words).split(" \\.\\. ")) {
            int found = part.indexOf(piece, at);
            if (found < 0) {
                return false;
            }
            at = found + piece.length();
        }
        return true;
    }

    private static String plain(String text) {
        return text.replaceAll("\\s+", " ");
    }
}
