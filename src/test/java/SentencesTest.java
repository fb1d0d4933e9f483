import java.io.IOException;
import java.nio.file.Files;
import java.nio.file.Path;
import java.util.List;
import java.util.Set;
import java.util.TreeSet;
import java.util.regex.Matcher;
import java.util.regex.Pattern;
import java.util.stream.Collectors;
import java.util.stream.Stream;

/** Each sentence of the document's Terms, and each row of each promise, is named by a test; and no test names others. */
public final class SentencesTest {
    private static final String TEXT = "\"((?:[^\"\\\\]|\\\\.)*)\"";
    private static final Pattern TERMS = Pattern.compile("Checks\\.terms\\(\\s*((?:" + TEXT + "[,\\s]*)+)\\)");
    private static final Pattern PROMISE = Pattern.compile("Checks\\.promise\\((\\d+),\\s*((?:" + TEXT + "[+\\s]*)+)\\)");
    private static final Pattern ROW = Pattern.compile("(?m)^(?:- (`.*)|((?:Returns|Throws) .*))$");
    private static final int PROMISES = 38;

    public static void main(String[] args) throws IOException {
        String document = Files.readString(Path.of("../shared/DOC.md"));
        StringBuilder tests = new StringBuilder();
        try (Stream<Path> files = Files.list(Path.of("src/test/java"))) {
            for (Path file : files.sorted().collect(Collectors.toList())) {
                tests.append(Files.readString(file));
            }
        }
        terms(between(document, "## Terms\n", "## Promise 1:"), tests.toString());
        promises(document, tests.toString());
        Checks.finish();
    }

    private static String between(String text, String start, String end) {
        int from = text.indexOf(start);
        int to = text.indexOf(end, Math.max(0, from));
        Checks.due(start.trim() + " is in the document", from >= 0 && to > from, true);
        return text.substring(from + start.length(), to);
    }

    /** The texts between quotes, put together. */
    private static String joined(String quoted, String glue) {
        return Pattern.compile(TEXT).matcher(quoted).results()
                .map(each -> each.group(1).replace("\\\"", "\"")).collect(Collectors.joining(glue));
    }

    private static void terms(String section, String tests) {
        StringBuilder open = new StringBuilder();
        for (String paragraph : section.split("\n\n")) {
            if (!paragraph.startsWith("Ahead of the calls")) {
                open.append(paragraph.trim().replaceAll("\\s+", " ").replaceFirst("^[A-Z][a-z]+\\. ", "")).append('\n');
            }
        }
        String whole = open.toString();
        Matcher named = TERMS.matcher(tests);
        int count = 0;
        while (named.find()) {
            String words = joined(named.group(1), " ");
            int at = whole.indexOf(words);
            Checks.due("in the document: " + words, at >= 0, true);
            for (int i = at; at >= 0 && i < at + words.length(); i++) {
                open.setCharAt(i, ' ');
            }
            count++;
        }
        Checks.due("sentences", count > 60, true);
        for (String left : open.toString().trim().split("\\s{2,}|\n")) {
            Checks.due("what no test names", left.trim(), "");
        }
    }

    private static void promises(String document, String tests) {
        Set<String> named = new TreeSet<>();
        Matcher each = PROMISE.matcher(tests);
        while (each.find()) {
            named.add(each.group(1) + ": " + joined(each.group(2), ""));
        }
        Set<String> rows = new TreeSet<>();
        for (int i = 1; i <= PROMISES; i++) {
            String end = i < PROMISES ? "## Promise " + (i + 1) + ":" : "## Not promised";
            String section = between(document, "## Promise " + i + ":", end);
            int promise = i;
            List<String> found = ROW.matcher(section).results()
                    .map(row -> promise + ": " + (row.group(1) != null ? row.group(1) : row.group(2)))
                    .collect(Collectors.toList());
            // A promise without rows is its description alone.
            rows.addAll(found.isEmpty() ? List.of(i + ": " + section.replaceAll("(?s).*`: |\\s+$", "")) : found);
        }
        for (String row : rows) {
            Checks.due("a test of promise " + row, named.contains(row), true);
        }
        named.removeAll(rows);
        Checks.due("rows that are not in the document", named, new TreeSet<String>());
    }
}
