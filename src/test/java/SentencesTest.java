import java.io.IOException;
import java.nio.file.Files;
import java.nio.file.Path;
import java.util.ArrayList;
import java.util.List;
import java.util.regex.Matcher;
import java.util.regex.Pattern;
import java.util.stream.Stream;

/** No sentence of the document is without a test: with all that tests quote taken out, no word is left of it. */
public final class SentencesTest {
    private static final Pattern QUOTE = Pattern.compile("Document\\.says\\(\"((?:[^\"\\\\]|\\\\.)*)\"\\)");

    public static void main(String[] args) throws IOException {
        String left = Document.text();
        List<String> quotes = quotes();
        // The longest first, lest a short one break a longer one up.
        quotes.sort((a, b) -> b.length() - a.length());
        for (String quote : quotes) {
            Check.holds("'" + quote + "' stands in the document once, and in one test", left.contains(quote));
            left = left.replaceFirst(Pattern.quote(quote), "|");
        }
        Check.holds("no test is for this: " + left, left.matches("[| ]*"));
        Check.end();
    }

    private static List<String> quotes() throws IOException {
        List<Path> tests;
        try (Stream<Path> all = Files.list(Path.of("src/test/java"))) {
            tests = all.filter(path -> path.toString().endsWith("Test.java")).sorted().toList();
        }
        List<String> quotes = new ArrayList<>();
        for (Path test : tests) {
            Matcher m = QUOTE.matcher(Files.readString(test));
            while (m.find()) {
                quotes.add(m.group(1).replace("\\\"", "\""));
            }
        }
        return quotes;
    }
}
