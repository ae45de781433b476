import java.io.IOException;
import java.lang.reflect.Constructor;
import java.lang.reflect.Executable;
import java.lang.reflect.Field;
import java.lang.reflect.Method;
import java.lang.reflect.Modifier;
import java.nio.file.Files;
import java.nio.file.Path;
import java.util.ArrayList;
import java.util.Arrays;
import java.util.List;
import java.util.Set;
import java.util.regex.Matcher;
import java.util.regex.Pattern;

/** Those rules of ../shared/LANGUAGE.md that can be read from the program's text and its classes. */
public final class LanguageTest {
    private static final Path PROGRAM = Path.of("src/main/java/LabelVault.java");
    private static final int MOST_CLASSES = 12;
    private static final int MOST_FIELDS = 20;
    private static final int MOST_PARAMETERS = 7;
    private static final int MOST_LINES = 60;

    private static final Set<String> IMPORTS = Set.of("java.util.ArrayList", "java.util.Arrays", "java.util.Iterator",
            "java.util.List", "java.util.NoSuchElementException");
    private static final Set<Class<?>> CONSTANTS = Set.of(int.class, long.class, boolean.class, char.class,
            String.class, int[].class, long[].class, char[].class, byte[].class);
    private static final Pattern FORBIDDEN = Pattern.compile(
            "->|::|\\b(package|finally|synchronized|assert|System\\.(?!arraycopy)\\w+|\\w+Exact)\\b");
    private static final Pattern FORBIDDEN_THROW = Pattern.compile("\\bthrow\\b(?! new (IllegalState|IllegalArgument"
            + "|IndexOutOfBounds|Arithmetic|UnsupportedOperation|NoSuchElement|Runtime)Exception\\((\"[^\"]*\")?\\);)");
    private static final Pattern METHOD = Pattern.compile("^( {4}| {8})\\w.*\\(.*$");

    private int wrong = 0;

    public static void main(String[] args) throws IOException {
        LanguageTest test = new LanguageTest();
        test.readText(Files.readAllLines(PROGRAM));
        List<Class<?>> classes = test.classes();
        test.demand(classes.size() <= MOST_CLASSES, 11, classes.size() + " classes");
        for (Class<?> one : classes) {
            test.readClass(one);
        }
        System.exit(test.wrong == 0 ? 0 : 1);
    }

    private List<Class<?>> classes() {
        List<Class<?>> classes = new ArrayList<>(List.of(LabelVault.class));
        for (Class<?> inside : LabelVault.class.getDeclaredClasses()) {
            int modifiers = inside.getModifiers();
            demand(Modifier.isStatic(modifiers) && !Modifier.isPublic(modifiers) && !Modifier.isProtected(modifiers), 1,
                    inside + " is not static, or can be seen from outside");
            classes.add(inside);
        }
        return classes;
    }

    private void readClass(Class<?> one) {
        int fields = 0;
        for (Field field : one.getDeclaredFields()) {
            if (Modifier.isStatic(field.getModifiers())) {
                demand(Modifier.isFinal(field.getModifiers()) && CONSTANTS.contains(field.getType()), 5,
                        field + " is no constant");
            } else {
                fields++;
            }
        }
        demand(fields <= MOST_FIELDS, 11, one + " has " + fields + " fields");
        for (Method method : one.getDeclaredMethods()) {
            readParameters(method);
            demand(!Modifier.isPrivate(method.getModifiers()) || !isOfFace(method.getName()), 1,
                    method + " is private and has a name of the face");
        }
        for (Constructor<?> constructor : one.getDeclaredConstructors()) {
            readParameters(constructor);
        }
    }

    private void readParameters(Executable executable) {
        demand(executable.getParameterCount() <= MOST_PARAMETERS, 11, executable + " takes too many");
    }

    private static boolean isOfFace(String name) {
        return Arrays.stream(LabelVault.class.getMethods()).anyMatch(method -> method.getName().equals(name));
    }

    private void readText(List<String> lines) {
        for (int i = 0; i < lines.size(); i++) {
            String line = lines.get(i);
            if (line.startsWith("import ")) {
                demand(IMPORTS.contains(line.substring("import ".length(), line.length() - 1)), 4, line);
            } else if (!line.matches("\\s*(/\\*|\\*|//).*")) {
                demand(!FORBIDDEN.matcher(line).find(), 2, line);
                demand(!FORBIDDEN_THROW.matcher(line).find(), 6, line);
            }
            Matcher method = METHOD.matcher(line);
            if (method.matches() && !line.endsWith(";")) {
                int length = linesUntil(method.group(1) + "}", lines, i);
                demand(length <= MOST_LINES, 11, length + " lines: " + line);
            }
        }
    }

    private static int linesUntil(String end, List<String> lines, int from) {
        int length = 1;
        while (from + length < lines.size() && !lines.get(from + length).equals(end)) {
            length++;
        }
        return length + 1;
    }

    private void demand(boolean kept, int rule, String what) {
        if (!kept) {
            wrong++;
            System.out.println("rule " + rule + ": " + what);
        }
    }
}
