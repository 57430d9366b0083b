import java.io.IOException;
import java.lang.reflect.Method;
import java.lang.reflect.Modifier;
import java.nio.file.Files;
import java.nio.file.Path;
import java.util.ArrayList;
import java.util.List;
import java.util.Map;
import java.util.Set;
import java.util.TreeMap;
import java.util.TreeSet;
import java.util.regex.Matcher;
import java.util.regex.Pattern;

/** README.md tells each call of the face with what it throws, and its example answers so. */
public final class ReadmeTests {
    private static final Checks CHECKS = new Checks();
    private static final Pattern CALL = Pattern.compile("\\| `(\\w+)\\(([^)]*)\\)` \\|.*\\|([^|]*)\\|");
    private static final Pattern EXCEPTION = Pattern.compile("\\*(Index|Argument|State)\\*");
    private static final Map<String, String> SHORT =
            Map.of(Checks.INDEX, "Index", Checks.ARGUMENT, "Argument", Checks.STATE, "State");

    public static void main(String[] args) throws IOException {
        List<String> lines = Files.readAllLines(Path.of("README.md"));
        everyCallIsTold(lines);
        everyTestIsTold(lines);
        exampleAnswersSo(String.join("\n", lines));
        CHECKS.end();
    }

    private static void everyCallIsTold(List<String> lines) {
        CHECKS.about("README.md, the calls");
        Map<String, String> told = new TreeMap<>();
        for (String line : lines) {
            Matcher call = CALL.matcher(line);
            if (call.matches()) {
                String before = told.put(call.group(1), shape(call.group(2)) + thrown(call.group(3)));
                CHECKS.isTrue(call.group(1) + " is told once", before == null);
            }
        }
        Map<String, String> face = new TreeMap<>();
        for (Method method : FlipPolygons.class.getDeclaredMethods()) {
            if (Modifier.isPublic(method.getModifiers())) {
                face.put(method.getName(), declared(method));
            }
        }
        CHECKS.due("what is told", told.keySet().toString(), face.keySet().toString());
        for (String name : face.keySet()) {
            CHECKS.due(name, told.getOrDefault(name, "nothing"), face.get(name));
        }
    }

    private static String shape(String parameters) {
        return (parameters.isEmpty() ? 0 : parameters.split(",").length) + " parameters";
    }

    private static List<String> thrown(String cell) {
        List<String> names = new ArrayList<>();
        Matcher exception = EXCEPTION.matcher(cell);
        while (exception.find()) {
            names.add(exception.group(1));
        }
        CHECKS.isTrue("a cell that tells no exception tells nothing: " + cell,
                names.isEmpty() == cell.trim().equals("nothing"));
        return names;
    }

    private static String declared(Method method) {
        List<String> names = new ArrayList<>();
        for (Class<?> exception : method.getExceptionTypes()) {
            names.add(SHORT.get(exception.getSimpleName()));
        }
        return method.getParameterCount() + " parameters" + names;
    }

    private static void everyTestIsTold(List<String> lines) throws IOException {
        CHECKS.about("README.md, the tests");
        Set<String> told = new TreeSet<>();
        for (String line : lines) {
            Matcher test = Pattern.compile(" *- `(\\w+Tests)`:.*").matcher(line);
            if (test.matches()) {
                told.add(test.group(1));
            }
        }
        Set<String> there = new TreeSet<>();
        try (var files = Files.newDirectoryStream(Path.of("src/test/java"), "*Tests.java")) {
            for (Path file : files) {
                there.add(file.getFileName().toString().replace(".java", ""));
            }
        }
        CHECKS.due("the tests", told.toString(), there.toString());
    }

    private static void exampleAnswersSo(String readme) {
        CHECKS.about("README.md, the example");
        FlipPolygons polygon = new FlipPolygons();
        polygon.fan(1, 3);
        CHECKS.due("distance(0)", polygon.distance(0), answerOf(readme, "distance(0)"));
        CHECKS.due("walk(20)", polygon.walk(20), answerOf(readme, "walk(20)"));
        CHECKS.due("undo()", polygon.undo(), answerOf(readme, "undo()"));
        CHECKS.due("distance(0), taken back", polygon.distance(0), answerOf(readme, "distance(0)"));
    }

    /** The number at the beginning of the remark behind a call of the example. */
    private static long answerOf(String readme, String call) {
        Matcher line = Pattern.compile(Pattern.quote("polygon." + call + ";") + " +// (\\d+)").matcher(readme);
        return line.find() ? Long.parseLong(line.group(1)) : -99;
    }
}
