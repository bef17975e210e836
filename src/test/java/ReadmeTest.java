import java.io.IOException;
import java.lang.reflect.Modifier;
import java.nio.file.Files;
import java.nio.file.Path;
import java.util.List;
import java.util.Set;
import java.util.TreeSet;
import java.util.regex.Matcher;
import java.util.regex.Pattern;
import java.util.stream.Collectors;
import java.util.stream.Stream;

/** README.md says how things stand: its calls, one of each method at least, answer as it says, and it names each test. */
public final class ReadmeTest {
    private static final Pattern TYPED = Pattern.compile("for \\(char c : \"([^\"]*)\"\\.toCharArray\\(\\)\\) x\\.type\\(c\\);");
    private static final Pattern CALL = Pattern.compile("x\\.(\\w+\\([^)]*\\)); +// (-?\\d+): .*");

    public static void main(String[] args) throws IOException {
        List<String> lines = Files.readAllLines(Path.of("README.md"));
        calls(lines);
        names(String.join("\n", lines));
        Check.end();
    }

    private static void calls(List<String> lines) {
        RopeTrays x = new RopeTrays();
        Set<String> made = new TreeSet<>();
        for (String line : lines) {
            Matcher typed = TYPED.matcher(line);
            Matcher call = CALL.matcher(line);
            if (typed.matches()) {
                Check.type(x, typed.group(1));
            } else if (call.matches()) {
                Check.due(call.group(1), Calls.answer(x, call.group(1)), Long.parseLong(call.group(2)));
                made.add(call.group(1).replaceAll("\\(.*", ""));
            } else {
                Check.holds("'" + line + "' is a call that can be read", !line.startsWith("x."));
            }
        }
        Check.holds("each method is called, not just " + made, made.equals(face()));
    }

    private static Set<String> face() {
        return Stream.of(RopeTrays.class.getDeclaredMethods()).filter(m -> Modifier.isPublic(m.getModifiers()))
            .map(m -> m.getName()).collect(Collectors.toCollection(TreeSet::new));
    }

    private static void names(String readme) throws IOException {
        List<String> tests;
        try (Stream<Path> all = Files.list(Path.of("src/test/java"))) {
            tests = all.map(path -> path.getFileName().toString()).filter(name -> name.endsWith("Test.java")).sorted().toList();
        }
        for (String test : tests) {
            Check.holds(test + " is named", Pattern.compile("\\b" + test.replace(".java", "") + "\\b").matcher(readme).find());
        }
    }
}
