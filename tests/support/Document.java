import java.io.IOException;
import java.nio.file.Files;
import java.nio.file.Path;
import java.util.Set;
import java.util.TreeSet;

/** The document's own words: a test that quotes a sentence must quote it as it stands there. */
final class Document {
    private static final String TEXT = read();
    private static final Set<Integer> QUOTED = new TreeSet<>();

    private Document() {
    }

    private static String read() {
        try {
            return Files.readString(Path.of("../shared/DOC.md")).replaceAll("\\s+", " ");
        } catch (IOException e) {
            throw new IllegalStateException("no document", e);
        }
    }

    static void quote(int promise, String sentence) {
        Checks.due("the document says '" + sentence + "'", 1, TEXT.contains(sentence) ? 1 : 0);
        if (sectionOf(promise).contains(sentence)) {
            QUOTED.add(promise);
        }
    }

    private static String sectionOf(int promise) {
        int start = TEXT.indexOf("## Promise " + promise + ":");
        int end = TEXT.indexOf("## ", start + 3);
        return start < 0 || end < 0 ? "" : TEXT.substring(start, end);
    }

    /** Each of these promises has had its own sentence quoted. */
    static void quotedAll(int first, int last) {
        for (int promise = first; promise <= last; promise++) {
            Checks.due("promise " + promise + " is quoted", 1, QUOTED.contains(promise) ? 1 : 0);
        }
    }
}
