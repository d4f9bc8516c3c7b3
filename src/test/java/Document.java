import java.io.IOException;
import java.nio.file.Files;
import java.nio.file.Path;

/**
 * A part of the document, gone through sentence by sentence: a test names each sentence ahead of the calls that hold
 * it, in the document's order, so that none is left out and none is told that doesn't stand there.
 */
final class Document {
    private static final Path PLACE = Path.of("../shared/DOC.md");
    private final Check check;
    private final String part;
    private int at = 0;

    /** From the first of these words up to the second. */
    Document(Check check, String from, String to) {
        this.check = check;
        String whole = bare();
        int begin = whole == null ? 0 : whole.indexOf(from);
        int end = whole == null ? 0 : whole.indexOf(to, Math.max(0, begin));
        check.due("the document has '" + from + "' ahead of '" + to + "'", begin >= 0 && end >= 0, true);
        part = whole == null || begin < 0 || end < 0 ? null : whole.substring(begin, end).trim();
    }

    /** Without headings, signatures and fences, all blanks alike; null: there is no document here. */
    private static String bare() {
        try {
            String whole = Files.readString(PLACE);
            return whole.replaceAll("(?m)^(#.*|```\\w*)$", " ").replaceAll("(?m)^`(int|boolean|WalkingFences)\\b[^`]*`:", " ")
                    .replaceAll("\\s+", " ");
        } catch (IOException e) {
            System.out.println("no document here: its words aren't looked at");
            return null;
        }
    }

    /** The next words of the document are these. */
    void says(String words) {
        if (part != null && at >= 0) {
            if (part.startsWith(words, at)) {
                at += words.length();
                at += at < part.length() && part.charAt(at) == ' ' ? 1 : 0;
            } else {
                check.due("the document says '" + words + "' (and not '" + ahead() + "')", false, true);
                at = -1;
            }
        }
    }

    /** All words of the part have been named. */
    void finish() {
        if (part != null && at >= 0) {
            check.due("no words are left ('" + ahead() + "')", part.length() - at, 0);
        }
    }

    private String ahead() {
        return part.substring(at, Math.min(part.length(), at + 80));
    }
}
