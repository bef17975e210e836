import java.io.IOException;
import java.io.UncheckedIOException;
import java.nio.file.Files;
import java.nio.file.Path;

/** ../shared/DOC.md, as far as it promises something; a test says for which of its sentences it is. */
final class Document {
    private static final String TEXT = read();

    private Document() {
    }

    /** What is checked from here on is for this sentence, which must stand in the document just so. */
    static void says(String sentence) {
        Check.about(sentence);
        Check.holds("it stands in the document", TEXT.contains(sentence));
    }

    static String text() {
        return TEXT;
    }

    /** The first sentence of the terms begins at the end of "What it is". */
    private static String read() {
        String all = file();
        String begin = between(all, "======== 1 FLOORS", "\n");
        String limit = between(all, "\nAn object is used", "\n##");
        String terms = between(all, "\n## Terms", "\n## Not promised");
        return plain(begin + terms + limit);
    }

    private static String plain(String text) {
        return text.replaceAll("(?m)^## .*$", " ").replaceAll("(?m)^Ahead of the calls .*$", " ")
            .replaceAll("```[a-z]*", " ").replace("========", " ").replaceAll("(?m)^`[^`]*`: ", " ")
            .replaceAll("\\s+", " ").trim();
    }

    private static String between(String all, String first, String last) {
        int begin = all.indexOf(first);
        return all.substring(begin, all.indexOf(last, begin + 1));
    }

    private static String file() {
        try {
            return Files.readString(Path.of("../shared/DOC.md"));
        } catch (IOException e) {
            throw new UncheckedIOException(e);
        }
    }
}
