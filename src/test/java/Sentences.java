import java.io.IOException;
import java.nio.file.Files;
import java.nio.file.Path;

/**
 * The document's words, read on from the first to the last: each piece that is quoted has what is due behind it,
 * and nothing is left out. The code of the public face is left to FaceTest.
 */
final class Sentences {
    static final Path DOCUMENT = Path.of("..", "shared", "DOC.md");

    private final Check check = new Check();
    private final String document;
    private int read = 0;
    private String said = null;
    private int tried = 0;

    Sentences() throws IOException {
        document = words(documentOrNothing());
    }

    /** Where the document is not at hand, its quotes can't be held against it, but what they make due still can. */
    static String documentOrNothing() throws IOException {
        return Files.exists(DOCUMENT) ? Files.readString(DOCUMENT) : "";
    }

    /** Without headings, fences, the face and the numbers of the parts; one blank between two words. */
    private static String words(String text) {
        StringBuilder words = new StringBuilder();
        boolean isFace = false;
        for (String line : text.split("\n")) {
            if (line.startsWith("```")) {
                isFace = line.equals("```java");
            } else if (!isFace && !line.startsWith("#")) {
                words.append(line.replaceAll("==== \\d\\.", "")).append(' ');
            }
        }
        return words.toString().replaceAll("\\s+", " ").trim();
    }

    /** The document goes on with these words; what is due from here on is theirs. */
    void says(String words) {
        tellUntried();
        said = words;
        tried = 0;
        boolean goesOn = document.isEmpty() || document.startsWith(words, read);
        check.holds("the document goes on with: " + words + " (but it does with: "
                + document.substring(read, Math.min(document.length(), read + 40)) + ")", goesOn);
        if (goesOn) {
            read = Math.min(document.length(), read + words.length() + 1);
        }
    }

    /** Words that promise nothing. */
    void leavesFree(String words) {
        says(words);
        tried = 1;
    }

    private void tellUntried() {
        check.holds("nothing is tried of: " + said, said == null || tried > 0);
    }

    void due(String call, long want, Check.Call made) {
        tried++;
        check.due("[" + said + "] " + call, want, made);
    }

    void yes(String call, boolean holds) {
        due(call, 1, () -> holds ? 1 : 0);
    }

    void noSuch(String call, Check.Call made) {
        due(call, Check.NO_SUCH, made);
    }

    void illegal(String call, Check.Call made) {
        due(call, Check.ILLEGAL, made);
    }

    void fine(String text) {
        tried++;
        check.fine(text);
    }

    /** A text whose fault stands where the sign ^ does. */
    void fault(int fault, String... texts) {
        for (String text : texts) {
            tried++;
            check.marked(text, fault);
        }
    }

    void row(MeerDrawers x, int... cards) {
        tried++;
        check.rowIs("[" + said + "]", x, cards);
    }

    /** What a key is, letters and blanks. */
    void key(MeerDrawers x, int clerk, int card, String key) {
        due("key of " + card + " by " + clerk + ": " + key, key.length(), () -> x.key(clerk, card, -1));
        for (int i = 0; i < key.length(); i++) {
            int at = i;
            int sign = key.charAt(at) == ' ' ? 0 : key.charAt(at) - 'a' + 1;
            due("key of " + card + " by " + clerk + ": " + key + " at " + at, sign, () -> x.key(clerk, card, at));
        }
    }

    /** All cards in the order of a clerk. */
    void order(MeerDrawers x, int clerk, int... cards) {
        for (int rank = 0; rank < cards.length; rank++) {
            int at = rank;
            due("at " + clerk + " " + at, cards[at], () -> x.at(clerk, at));
        }
    }

    void end() {
        tellUntried();
        check.holds("the document has no more words than these, but: " + document.substring(read), read == document.length());
        check.end();
    }
}
