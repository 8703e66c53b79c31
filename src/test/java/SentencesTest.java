import java.io.IOException;
import java.nio.file.Files;
import java.nio.file.Path;
import java.nio.file.Paths;
import java.util.ArrayList;
import java.util.Collections;
import java.util.List;
import java.util.regex.Matcher;
import java.util.regex.Pattern;

/** Each promise, and each part of the terms, has sentences that a test says; and the tests say nothing else. */
public final class SentencesTest {
    private static final Kit KIT = new Kit("Sentences");
    private static final Pattern SAYS = Pattern.compile("\\.says\\(\"((?:[^\"\\\\]|\\\\.)*)\"\\)");

    public static void main(String[] args) throws IOException {
        List<String> said = said();
        for (String s : said) KIT.due("the document says: " + s, Document.has(s) ? 1 : 0, 1);
        for (int i = 1; i <= 54; i++) {
            String promise = between("## Promise " + i + ": ", i < 54 ? "## Promise " + (i + 1) + ": " : "## Not promised");
            KIT.due("promise " + i + " is said", isSaid(promise.substring(promise.indexOf("`: ") + 3), said) ? 1 : 0, 1);
        }
        String[] parts = {"======== 1 PICTURES", "======== 2 VOLUMES", "======== 3 FORMS", "CELLS. BLOCK 0", "NODES. BLOCK 0", "TAPE. Entries", "THE MAKER writes", "A FOLDER is made", "======== 4 TREES", "FILES are numbered", "FAULTS (100",
            "OWNER of a BLOCK: 1", "======== 5 LOST", "CUT OUT (20", "======== 6 FORMATS", "CHUNKS: 0x89", "PACK: entries", "ROWS: 'R'", "A piece, entry", "INSIDE: a NODE", "======== 7 FINDING", "======== 8 QUESTIONS", "======== 9 TIMES",
            "======== 10 CLAIMS", "ACTS: who", "BAD goes first", "Ahead of the calls"};
        for (int i = 0; i + 1 < parts.length; i++) KIT.due("the part " + parts[i] + " is said", isSaid(between(parts[i], parts[i + 1]), said) ? 1 : 0, 1);
        KIT.finish();
    }

    private static String between(String from, String to) {
        String all = Document.text();
        int begin = all.indexOf(from);
        int end = all.indexOf(to, begin + 1);
        if (begin < 0 || end < 0) throw new IllegalStateException("no part from " + from + " to " + to);
        return all.substring(begin, end);
    }

    private static boolean isSaid(String part, List<String> said) {
        for (String s : said) {
            if (part.contains(s)) return true;
        }
        return false;
    }

    /** What the tests say, as it stands in their sources. */
    private static List<String> said() throws IOException {
        List<Path> sources = new ArrayList<>();
        try (var files = Files.list(Paths.get("src/test/java"))) {
            files.forEach(sources::add);
        }
        Collections.sort(sources);
        List<String> said = new ArrayList<>();
        for (Path source : sources) {
            Matcher m = SAYS.matcher(Files.readString(source));
            while (m.find()) said.add(Document.plain(m.group(1).replaceAll("\\\\(.)", "$1")));
        }
        return said;
    }
}
