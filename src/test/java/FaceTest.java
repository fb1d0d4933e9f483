import java.io.IOException;
import java.lang.reflect.Constructor;
import java.lang.reflect.Field;
import java.lang.reflect.Method;
import java.lang.reflect.Modifier;
import java.nio.file.Files;
import java.nio.file.Path;
import java.util.ArrayList;
import java.util.Collections;
import java.util.HashSet;
import java.util.List;
import java.util.Set;
import java.util.regex.Matcher;
import java.util.regex.Pattern;

/** The public face: its members are those of the document and no others. */
public final class FaceTest {
    private static final String[] FACE = {
        "int setHeight(int,int)", "int setRiver(int)", "boolean build(int,char)", "char takeDown(int)",
        "int setTolerance(int)", "boolean vote(char,int)", "int law(char)", "char builtOn(int)", "int nameOf(int)",
        "int rentOf(int)", "int load(int)", "boolean hadWater(int)", "int way(int,int)", "int arrive(int,int)",
        "int leave(int)", "int found(int,int,int)", "int setPay(int,int,int)", "int homeOf(int)", "int firmOf(int)",
        "int hungerOf(int)", "int costOf(int)", "int stockOf(int)", "int creditOf(int)", "int workersOf(int)",
        "int borrow(int)", "int pass(int)", "int balance(int)", "int balanceAnew(int)", "int entries()",
        "int entry(int,int)", "int bonds()", "int failures()", "int households()", "long money()",
        "float workingShare()", "double meanRent()", "boolean isBalanced()"};

    public static void main(String[] args) throws IOException {
        Class<?> type = Hundredward.class;
        Checks.due("the class", Modifier.toString(type.getModifiers()), "public final");
        Checks.due("its package", type.getPackageName(), "");
        Constructor<?>[] made = type.getDeclaredConstructors();
        Checks.due("one constructor", made.length, 1);
        Checks.due("without parameters", made[0].toString(), "public Hundredward()");
        List<String> open = new ArrayList<>();
        Set<String> names = new HashSet<>();
        for (Method method : type.getDeclaredMethods()) {
            if (Modifier.isPublic(method.getModifiers())) {
                open.add(written(method));
                names.add(method.getName());
                Checks.due("modifiers of " + method.getName(), Modifier.toString(method.getModifiers()), "public");
            }
        }
        List<String> want = new ArrayList<>(List.of(FACE));
        Collections.sort(open);
        Collections.sort(want);
        Checks.due("the public methods", open, want);
        closed(type, names);
        for (Class<?> inside : type.getDeclaredClasses()) {
            Checks.due(inside + " is no public class", Modifier.isPublic(inside.getModifiers()), false);
            Checks.due(inside + " is static", Modifier.isStatic(inside.getModifiers()), true);
            for (Method method : inside.getDeclaredMethods()) {
                Checks.due(method + " bears no public name", names.contains(method.getName()), false);
            }
        }
        String document = Files.readString(Path.of("../shared/DOC.md"));
        String source = Files.readString(Path.of("src/main/java/Hundredward.java"));
        asWritten(document, source.replaceAll("\\s+", " "));
        headings(document, source);
        Checks.finish();
    }

    /** Each line of the document's face, with its parameters and exceptions, is a line of the class, in this order. */
    private static void asWritten(String document, String source) {
        int from = document.indexOf("```java");
        int to = document.indexOf("```", from + 1);
        Checks.due("the document has a face", from >= 0 && to > from, true);
        int at = 0;
        int lines = 0;
        for (String line : document.substring(from, to).split("\n")) {
            if (line.startsWith("    public ")) {
                String wanted = line.trim().replace(";", " {");
                int found = source.indexOf(wanted, at);
                Checks.due(wanted + " follows those ahead of it", found >= 0, true);
                at = Math.max(at, found);
                lines++;
            }
        }
        Checks.due("lines of the face", lines, FACE.length + 1);
    }

    /** The headings of the interface, each with the calls that follow it. */
    private static void headings(String document, String source) {
        List<String> want = new ArrayList<>();
        Matcher told = Pattern.compile("Ahead of the calls (.*) the interface says: (---- .*)\\.").matcher(document);
        while (told.find()) {
            want.add(told.group(2) + ": " + told.group(1).replace("`", ""));
        }
        Checks.due("headings in the document", want.size(), 3);
        List<String> got = new ArrayList<>();
        Matcher line = Pattern.compile("(?m)^    // (---- .*)$|^    public [\\w]+ (\\w+)\\(").matcher(source);
        while (line.find()) {
            if (line.group(1) != null) {
                got.add(line.group(1));
            } else if (!got.isEmpty()) {
                String last = got.remove(got.size() - 1);
                got.add(last + (last.contains(": ") ? ", " : ": ") + line.group(2));
            }
        }
        Checks.due("the headings", got.subList(0, Math.min(got.size(), want.size())), want);
    }

    private static String written(Method method) {
        List<String> taken = new ArrayList<>();
        for (Class<?> each : method.getParameterTypes()) {
            taken.add(each.getSimpleName());
        }
        return method.getReturnType().getSimpleName() + " " + method.getName() + "(" + String.join(",", taken) + ")";
    }

    private static void closed(Class<?> type, Set<String> names) {
        for (Method method : type.getDeclaredMethods()) {
            if (!Modifier.isPublic(method.getModifiers())) {
                Checks.due(method + " is private", Modifier.isPrivate(method.getModifiers()), true);
                Checks.due(method + " bears no public name", names.contains(method.getName()), false);
            }
        }
        for (Field field : type.getDeclaredFields()) {
            Checks.due(field + " is private", Modifier.isPrivate(field.getModifiers()), true);
        }
    }
}
