import java.io.IOException;
import java.nio.file.Files;
import java.nio.file.Path;

/** DOC.md by its parts, so that a test can quote the sentence that it belongs to. */
final class Document {
    private static final String TEXT = readAll(Path.of("../shared/DOC.md"));

    private Document() {
    }

    private static String readAll(Path place) {
        try {
            return Files.readString(place);
        } catch (IOException e) {
            throw new IllegalStateException("no document at " + place.toAbsolutePath(), e);
        }
    }

    /** Whether the words stand in the part whose heading begins so; line ends are as good as blanks. */
    static boolean says(String part, String words) {
        int from = TEXT.indexOf("\n## " + part);
        if (from < 0) {
            return false;
        }
        int next = TEXT.indexOf("\n## ", from + 1);
        String found = TEXT.substring(from, next < 0 ? TEXT.length() : next);
        return found.replaceAll("\\s+", " ").contains(words);
    }
}
