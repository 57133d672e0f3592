import java.io.IOException;
import java.lang.reflect.Method;
import java.lang.reflect.Modifier;
import java.nio.file.DirectoryStream;
import java.nio.file.Files;
import java.nio.file.Path;
import java.util.Map;
import java.util.Set;
import java.util.TreeMap;
import java.util.TreeSet;
import java.util.regex.MatchResult;
import java.util.regex.Pattern;

/** What README.md says is so: its example, its table of calls, its list of tests. */
public final class ReadmeTest {
    private static final Path README = Path.of("README.md");
    private static final Path TESTS = Path.of("src/test/java");

    private static final Pattern EXAMPLE = Pattern.compile(
            "(?m)^heap\\.(\\w+)\\(([^)]*)\\); +// (?:VersionHeap\\.)?(-?\\w+)");
    private static final Pattern ROW = Pattern.compile(
            "(?m)^\\| `(\\w+)\\(([^)]*)\\)` \\|.*\\|([^|]*)\\|$");
    private static final Pattern TEST = Pattern.compile("(?m)^- `(\\w+Test)`:");
    private static final Pattern WORD = Pattern.compile("`([A-Z_]+)`");

    // The refusals of each call in the order in which the document's promises name them.
    private static final Map<String, String> REFUSALS = Map.ofEntries(
            Map.entry("begin", "BAD_TX ACTIVE"),
            Map.entry("put", "BAD_TX IDLE BAD_KEY BUSY LATE"),
            Map.entry("remove", "BAD_TX IDLE BAD_KEY ABSENT BUSY LATE"),
            Map.entry("get", "BAD_TX IDLE BAD_KEY ABSENT"),
            Map.entry("save", "BAD_TX IDLE FULL"),
            Map.entry("undo", "BAD_TX IDLE"),
            Map.entry("commit", "BAD_TX IDLE UNSAFE"),
            Map.entry("abort", "BAD_TX IDLE"),
            Map.entry("crash", ""),
            Map.entry("vacuum", ""),
            Map.entry("size", "BAD_TX IDLE"),
            Map.entry("find", "BAD_TX IDLE ABSENT"),
            Map.entry("committed", ""),
            Map.entry("committedSize", ""));

    public static void main(String[] args) throws IOException {
        String readme = Files.readString(README);
        exampleAnswersAsItSays(readme);
        tableHasTheCalls(readme);
        testsAreTheOnesThereAre(readme);
        Check.finish();
    }

    private static void exampleAnswersAsItSays(String readme) {
        VersionHeap heap = new VersionHeap();
        int calls = 0;
        for (MatchResult line : EXAMPLE.matcher(readme).results().toList()) {
            String numbers = line.group(2).replace(",", "").replace("true", "strict")
                    .replace("false", "loose");
            int got = Call.of(line.group(1) + " " + numbers).on(heap);
            Check.due("README: " + line.group(), got, Call.number(line.group(3)));
            calls++;
        }
        long written = readme.lines().filter(line -> line.startsWith("heap.")).count();
        Check.due("README: calls of the example that were carried out", calls, written);
        Check.holds("README: the example has calls", calls > 0);
    }

    private static void tableHasTheCalls(String readme) {
        Map<String, Integer> named = new TreeMap<>();
        for (MatchResult row : ROW.matcher(readme).results().toList()) {
            String name = row.group(1);
            named.put(name, row.group(2).isEmpty() ? 0 : row.group(2).split(",").length);
            StringBuilder refusals = new StringBuilder();
            for (MatchResult word : WORD.matcher(row.group(3)).results().toList()) {
                refusals.append(word.group(1)).append(' ');
            }
            Check.holds("README: refusals of " + name + " as the document names them, not as "
                    + refusals, refusals.toString().trim().equals(REFUSALS.get(name)));
        }
        Map<String, Integer> due = new TreeMap<>();
        for (Method method : VersionHeap.class.getDeclaredMethods()) {
            if (Modifier.isPublic(method.getModifiers())) {
                due.put(method.getName(), method.getParameterCount());
            }
        }
        Check.holds("README: the calls of the table " + named + " are " + due, named.equals(due));
    }

    private static void testsAreTheOnesThereAre(String readme) throws IOException {
        Set<String> named = new TreeSet<>();
        for (MatchResult item : TEST.matcher(readme).results().toList()) {
            named.add(item.group(1) + ".java");
        }
        Set<String> due = new TreeSet<>();
        try (DirectoryStream<Path> files = Files.newDirectoryStream(TESTS, "*Test.java")) {
            for (Path file : files) {
                due.add(file.getFileName().toString());
            }
        }
        Check.holds("README: the tests " + named + " are " + due, named.equals(due));
    }
}
