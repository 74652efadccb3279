import java.io.IOException;
import java.io.UncheckedIOException;
import java.nio.file.Files;
import java.nio.file.Path;
import java.util.List;
import java.util.regex.Matcher;
import java.util.regex.Pattern;

/** README.md: the answers that its example tells are the ones that the class gives. */
public final class ReadmeTest {
    private static final String MAKING = "GroupedReader reader = new GroupedReader();";
    private static final Pattern CALL =
        Pattern.compile("reader\\.(?:feed\\('(.)'\\)|(complete)\\(\\)|value\\(\\)); +// (\\w+)(?::.*)?");

    public static void main(String[] args) {
        Check.test("The example in README.md", ReadmeTest::example);
        Check.end();
    }

    private static void example() {
        List<String> lines = exampleLines();
        Check.same("the example's first line", lines.get(0), MAKING);
        GroupedReader reader = new GroupedReader();
        for (String line : lines.subList(1, lines.size())) {
            // A line that isn't understood is wrong, so that no answer goes untested.
            Matcher call = CALL.matcher(line);
            Check.same("\"" + line + "\": a call and its answer", call.matches(), true);
            if (call.matches()) {
                Check.same(line, answer(reader, call), call.group(3));
            }
        }
    }

    private static String answer(GroupedReader reader, Matcher call) {
        if (call.group(1) != null) {
            return String.valueOf(reader.feed(call.group(1).charAt(0)));
        }
        if (call.group(2) != null) {
            return String.valueOf(reader.complete());
        }
        return String.valueOf(reader.value());
    }

    private static List<String> exampleLines() {
        List<String> readme = readmeLines();
        int start = readme.indexOf("```java") + 1;
        List<String> rest = readme.subList(start, readme.size());
        return rest.subList(0, rest.indexOf("```"));
    }

    private static List<String> readmeLines() {
        try {
            return Files.readAllLines(Path.of("README.md"));
        } catch (IOException missing) {
            throw new UncheckedIOException(missing);
        }
    }
}
