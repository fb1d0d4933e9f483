import java.io.IOException;
import java.lang.reflect.InvocationTargetException;
import java.lang.reflect.Method;
import java.nio.file.Files;
import java.nio.file.Path;
import java.util.ArrayList;
import java.util.List;
import java.util.regex.MatchResult;
import java.util.regex.Matcher;
import java.util.regex.Pattern;
import java.util.stream.Collectors;

/** What README.md tells its reader: the example's answers, and the rows of the calls with their exceptions. */
public final class ReadmeTest {
    private static final Pattern BLOCK = Pattern.compile("(?s)```java\n(.*?)```");
    private static final Pattern LINE = Pattern.compile("town\\.(\\w+)\\((.*?)\\); *// (answers|throws) ([\\w.]+)\\b.*");
    private static final Pattern ROW = Pattern.compile("(?m)^\\| `(\\w+\\(.*?\\))` \\| (.+?) \\| (.+?) \\|$");
    private static final Pattern CALL =
            Pattern.compile("(?m)^    public \\w+ (\\w+\\(.*?\\))(?: throws ([\\w, ]+))?;$");
    private static final Pattern EXCEPTION = Pattern.compile("\\w+Exception");

    public static void main(String[] args) throws IOException, ReflectiveOperationException {
        String readme = Files.readString(Path.of("README.md"));
        Matcher block = BLOCK.matcher(readme);
        Checks.due("README.md has an example", block.find(), true);
        example(block.group(1).split("\n"));
        rows(readme, Files.readString(Path.of("../shared/DOC.md")));
        Checks.finish();
    }

    private static void example(String[] lines) throws ReflectiveOperationException {
        Checks.due("the first line", lines[0], "Hundredward town = new Hundredward();");
        Hundredward town = new Hundredward();
        for (int i = 1; i < lines.length; i++) {
            Matcher line = LINE.matcher(lines[i]);
            Checks.due("a call with its answer: " + lines[i], line.matches(), true);
            if (line.matches()) {
                Checks.due(lines[i], answer(town, line.group(1), line.group(2)), line.group(4));
            }
        }
    }

    /** What a call of the example answers, or the name of what it throws. */
    private static String answer(Hundredward town, String name, String written) throws ReflectiveOperationException {
        List<Object> given = new ArrayList<>();
        for (String each : written.isEmpty() ? new String[0] : written.split(", ")) {
            if (each.startsWith("'")) {
                given.add(each.charAt(1));
            } else {
                given.add(Integer.parseInt(each));
            }
        }
        for (Method method : Hundredward.class.getMethods()) {
            if (method.getName().equals(name) && method.getParameterCount() == given.size()) {
                try {
                    return String.valueOf(method.invoke(town, given.toArray()));
                } catch (InvocationTargetException e) {
                    return e.getCause().getClass().getSimpleName();
                }
            }
        }
        return "no such call";
    }

    private static void rows(String readme, String document) {
        List<String> told = ROW.matcher(readme).results()
                .map(row -> row.group(1) + " " + exceptions(row.group(3))).collect(Collectors.toList());
        List<String> want = CALL.matcher(document).results()
                .map(call -> call.group(1) + " " + exceptions(call.group(2))).collect(Collectors.toList());
        Checks.due("calls in the document", want.size(), 37);
        Checks.due("the rows of the calls", told, want);
    }

    private static List<String> exceptions(String text) {
        return EXCEPTION.matcher(text == null ? "" : text).results()
                .map(MatchResult::group).collect(Collectors.toList());
    }
}
