import java.io.IOException;
import java.lang.reflect.Constructor;
import java.lang.reflect.Field;
import java.lang.reflect.Method;
import java.lang.reflect.Modifier;
import java.nio.file.Files;
import java.nio.file.Path;
import java.util.ArrayList;
import java.util.Arrays;
import java.util.List;
import java.util.Set;
import java.util.TreeSet;
import java.util.regex.Matcher;
import java.util.regex.Pattern;

/** What can be seen of LANGUAGE.md from the program's face and its text. */
public final class LanguageTests {
    private static final Checks CHECKS = new Checks();
    private static final String FILE = "src/main/java/FlipPolygons.java";

    private static final List<String> FACE = List.of(
            "int begin(int) IllegalArgumentException",
            "int flip(int, int, int) IndexOutOfBoundsException IllegalStateException",
            "int fan(int, int) IndexOutOfBoundsException",
            "int turn(int, int) IndexOutOfBoundsException IllegalArgumentException",
            "int mirror(int) IndexOutOfBoundsException",
            "int exchange()",
            "int lock(int, int, boolean) IndexOutOfBoundsException IllegalStateException",
            "int walk(int) IllegalArgumentException IllegalStateException",
            "int append(int) IllegalArgumentException IllegalStateException",
            "int clearBuffer()",
            "int firstError()",
            "int read(int) IndexOutOfBoundsException IllegalArgumentException IllegalStateException",
            "int take(int) IndexOutOfBoundsException",
            "int restore(int) IndexOutOfBoundsException IllegalStateException",
            "int undo() IllegalStateException",
            "int number(int, int) IndexOutOfBoundsException",
            "int triangulation(int, int) IndexOutOfBoundsException IllegalArgumentException",
            "int degree(int, int) IndexOutOfBoundsException",
            "int other(int, int, int) IndexOutOfBoundsException",
            "int whyNot(int, int) IndexOutOfBoundsException",
            "int distance(int) IllegalArgumentException",
            "int ifFlipped(int, int) IndexOutOfBoundsException",
            "int count(int) IllegalArgumentException",
            "double farShare()",
            "long digest()");

    public static void main(String[] args) throws IOException {
        face();
        classesInside();
        text(Files.readString(Path.of(FILE)));
        CHECKS.end();
    }

    private static String told(Method method) {
        List<String> types = new ArrayList<>();
        for (Class<?> type : method.getParameterTypes()) {
            types.add(type.getSimpleName());
        }
        StringBuilder told = new StringBuilder(method.getReturnType().getSimpleName() + " "
                + method.getName() + "(" + String.join(", ", types) + ")");
        for (Class<?> thrown : method.getExceptionTypes()) {
            told.append(' ').append(thrown.getSimpleName());
        }
        return told.toString();
    }

    private static void face() {
        CHECKS.about("rule 1, the face");
        Set<String> faces = new TreeSet<>();
        Set<String> names = new TreeSet<>();
        for (Method method : FlipPolygons.class.getDeclaredMethods()) {
            if (Modifier.isPublic(method.getModifiers())) {
                faces.add(told(method));
                names.add(method.getName());
            }
        }
        CHECKS.due("the face", faces.toString(), new TreeSet<>(FACE).toString());
        for (Method method : FlipPolygons.class.getDeclaredMethods()) {
            boolean open = Modifier.isPublic(method.getModifiers());
            CHECKS.isTrue(method + " is public or private", open || Modifier.isPrivate(method.getModifiers()));
            CHECKS.isTrue(method + " has a name of its own", open || !names.contains(method.getName()));
            CHECKS.isTrue(method + " is no static one of the face", !open || !Modifier.isStatic(method.getModifiers()));
        }
        for (Field field : FlipPolygons.class.getDeclaredFields()) {
            CHECKS.isTrue(field + " is private, but for NONE",
                    Modifier.isPrivate(field.getModifiers()) != field.getName().equals("NONE"));
        }
        Constructor<?>[] constructors = FlipPolygons.class.getDeclaredConstructors();
        CHECKS.due("constructors", constructors.length, 1);
        CHECKS.due("its parameters", constructors[0].getParameterCount(), 0);
        int modifiers = FlipPolygons.class.getModifiers();
        CHECKS.isTrue("public and final", Modifier.isPublic(modifiers) && Modifier.isFinal(modifiers));
    }

    private static void classesInside() {
        CHECKS.about("rules 1, 5 and 11, the classes inside");
        List<Class<?>> all = new ArrayList<>(Arrays.asList(FlipPolygons.class.getDeclaredClasses()));
        CHECKS.isTrue("at most twelve classes", all.size() < 12);
        for (Class<?> inside : all) {
            int modifiers = inside.getModifiers();
            CHECKS.isTrue(inside + " is static and not public",
                    Modifier.isStatic(modifiers) && !Modifier.isPublic(modifiers) && !Modifier.isProtected(modifiers));
        }
        all.add(FlipPolygons.class);
        for (Class<?> one : all) {
            int fields = 0;
            for (Field field : one.getDeclaredFields()) {
                boolean isStatic = Modifier.isStatic(field.getModifiers());
                fields += isStatic ? 0 : 1;
                CHECKS.isTrue(field + " is final if static", !isStatic || Modifier.isFinal(field.getModifiers()));
            }
            CHECKS.isTrue(one + " has at most twenty fields", fields <= 20);
            for (Method method : one.getDeclaredMethods()) {
                CHECKS.isTrue(method + " takes at most seven parameters", method.getParameterCount() <= 7);
            }
        }
    }

    private static void text(String program) {
        CHECKS.about("rules 3, 4, 6 and 10, the text");
        String code = program.replaceAll("(?s)/\\*.*?\\*/", "").replaceAll("//[^\n]*", "")
                .replaceAll("\"[^\"\n]*\"", "\"\"");
        for (String ruledOut : new String[] {"package ", "catch", "finally", "try ", "->", "::",
            "synchronized", "assert", "instanceof", "Double", "Float", "System.exit", "System.out",
            "Exact", "java.util.function", "Object", "hashCode", "var "}) {
            CHECKS.isTrue("no " + ruledOut, !code.contains(ruledOut));
        }
        Set<String> used = new TreeSet<>();
        Matcher calls = Pattern.compile("\\b(Integer|Long|Math|Arrays|System|List)\\.(\\w+)").matcher(code);
        while (calls.find()) {
            used.add(calls.group());
        }
        used.removeAll(Set.of("Integer.bitCount", "Math.max", "Math.min", "Arrays.fill"));
        CHECKS.due("what else is used of the library", used.toString(), "[]");
        Matcher imports = Pattern.compile("import ([^;]*);").matcher(code);
        while (imports.find()) {
            CHECKS.due("an import", imports.group(1), "java.util.Arrays");
        }
    }
}
