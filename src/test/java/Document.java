import java.io.IOException;
import java.nio.file.Files;
import java.nio.file.Path;
import java.nio.file.Paths;

/** What ../shared/DOC.md says. */
final class Document {
    private static final Path PLACE = Paths.get("../shared/DOC.md");
    private static String all;

    private Document() {
    }

    /** All of it, each run of blanks and line ends one blank. */
    static String text() {
        if (all == null) {
            try {
                all = plain(Files.readString(PLACE));
            } catch (IOException e) {
                throw new IllegalStateException("no document", e);
            }
        }
        return all;
    }

    static String plain(String s) {
        return s.replaceAll("\\s+", " ");
    }

    static boolean has(String sentence) {
        return text().contains(plain(sentence));
    }
}
