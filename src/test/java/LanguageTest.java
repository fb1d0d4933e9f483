import java.io.IOException;
import java.nio.file.Files;
import java.nio.file.Path;
import java.util.List;
import java.util.Map;
import java.util.regex.Matcher;
import java.util.regex.Pattern;

/** Those rules of ../shared/LANGUAGE.md that the text of the program shows. */
public final class LanguageTest {
    private static final Map<String, String> FORBIDDEN = Map.ofEntries(
            Map.entry("a lambda", "->"), Map.entry("a method reference", "::"), Map.entry("try", "\\btry\\b"),
            Map.entry("catch", "\\bcatch\\b"), Map.entry("finally", "\\bfinally\\b"),
            Map.entry("instanceof", "\\binstanceof\\b"), Map.entry("synchronized", "\\bsynchronized\\b"),
            Map.entry("assert", "\\bassert\\b"), Map.entry("the clock or the output", "System\\.(?!arraycopy)"),
            Map.entry("randomness", "Random"), Map.entry("an exact function", "Exact\\("),
            Map.entry("a static block", "static \\{"), Map.entry("a package", "\\bpackage\\b"),
            Map.entry("a loop without a bound", "while|for \\(;"), Map.entry("a sign beyond 127", "[^\\x00-\\x7f]"));
    private static final int LONGEST_METHOD = 60;
    private static final int MOST_CLASSES = 12;

    public static void main(String[] args) throws IOException {
        Path file = Path.of("src/main/java/Hundredward.java");
        String text = Files.readString(file);
        for (Map.Entry<String, String> entry : FORBIDDEN.entrySet()) {
            Matcher found = Pattern.compile(entry.getValue()).matcher(text);
            Checks.due(entry.getKey(), found.find() ? found.group() : "none", "none");
        }
        Checks.due("imports", count(text, "(?m)^import "), 1);
        Checks.due("the import", count(text, "(?m)^import java\\.util\\.NoSuchElementException;$"), 1);
        Checks.due("no more classes than the rules leave", count(text, "\\bclass \\w+ \\{") <= MOST_CLASSES, true);
        Checks.due("throws", count(text, "throw new \\w+\\(\"[\\w ,]+\"\\);"), count(text, "\\bthrow "));
        Checks.due("static fields", count(text, "static (?!final|class)[\\w\\[\\]]+ \\w+( =|;)"), 0);
        methods(Files.readAllLines(file));
        Checks.finish();
    }

    private static int count(String text, String pattern) {
        return (int) Pattern.compile(pattern).matcher(text).results().count();
    }

    private static void methods(List<String> lines) {
        int start = -1;
        String end = "";
        for (int i = 0; i < lines.size(); i++) {
            String line = lines.get(i);
            if (start < 0 && line.matches(" +[\\w\\[\\]<> ]+\\(.*") && !line.contains("=") && line.startsWith("    ")
                    && !line.matches(" *(return|if|for|throw) .*")) {
                start = i;
                end = line.replaceAll("\\S.*", "") + "}";
            } else if (start >= 0 && line.equals(end)) {
                Checks.due("lines of " + lines.get(start).trim(), i - start < LONGEST_METHOD, true);
                start = -1;
            }
        }
    }
}
