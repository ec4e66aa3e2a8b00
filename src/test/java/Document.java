import java.io.IOException;
import java.nio.file.Files;
import java.nio.file.Path;

/** A part of the document, gone through from its first word to its last one, so that no sentence is left out. */
final class Document {
    private static final Path PLACE = Path.of("../shared/DOC.md");
    private final Check check;
    private final String text;
    private int at;

    /** From a heading up to another one, or to the end if that is empty. */
    Document(Check check, String from, String to) throws IOException {
        this.check = check;
        String whole = Files.readString(PLACE).replaceAll("(?m)^```.*$", "").replaceAll("\\s+", " ").trim();
        int first = Math.max(0, whole.indexOf(from));
        int last = to.isEmpty() ? whole.length() : whole.indexOf(to);
        text = whole.substring(first, Math.max(first, last)).trim();
    }

    /** The words that come next; the answers from here on are about them. */
    void says(String words) {
        check.says(words);
        int found = text.indexOf(words, at);
        String leftOut = found < 0 ? "these words are not there" : "left out is: " + text.substring(at, found);
        check.holds("the document goes on so; " + leftOut, found == at);
        if (found >= 0) {
            at = found + words.length();
            while (at < text.length() && text.charAt(at) == ' ') {
                at++;
            }
        }
    }

    void ends() {
        check.says("the end");
        check.holds("left out is: " + text.substring(at), at == text.length());
    }
}
