import java.lang.reflect.Constructor;
import java.lang.reflect.Executable;
import java.lang.reflect.Field;
import java.lang.reflect.Member;
import java.lang.reflect.Method;
import java.lang.reflect.Modifier;
import java.util.ArrayList;
import java.util.Arrays;
import java.util.List;
import java.util.TreeSet;
import java.util.stream.Collectors;

/** The class has the document's face, with its constants and exceptions, and nothing else that is not private. */
public final class FaceTest {
    /** The members as the document writes them. */
    static final List<String> FACE = List.of(
        "public static final int NONE = -1;",
        "public static final int FULL = -2;",
        "public static final int CRASHED = -3;",
        "public LabelVault();",
        "public int area(int label) throws IllegalArgumentException, IllegalStateException;",
        "public boolean flows(int a, int b) throws IllegalArgumentException;",
        "public boolean clear(int u, int label) throws IllegalArgumentException;",
        "public int login(int u, int a) throws IllegalArgumentException, IllegalStateException;",
        "public int logout(int session) throws IllegalArgumentException;",
        "public int make(int session, int path, int kind) throws IllegalArgumentException, "
                + "NoSuchElementException, UnsupportedOperationException, IllegalStateException;",
        "public int write(int session, int path, int at, int v) throws IllegalArgumentException, "
                + "NoSuchElementException, IllegalStateException, UnsupportedOperationException;",
        "public int truncate(int session, int path, int n) throws IllegalArgumentException, "
                + "NoSuchElementException, IllegalStateException, UnsupportedOperationException;",
        "public int remove(int session, int path) throws IllegalArgumentException, NoSuchElementException, "
                + "IllegalStateException, UnsupportedOperationException;",
        "public int move(int session, int path, int to) throws IllegalArgumentException, "
                + "NoSuchElementException, IllegalStateException, UnsupportedOperationException;",
        "public int read(int session, int path, int a, int at) throws IllegalArgumentException, "
                + "IllegalStateException, NoSuchElementException, UnsupportedOperationException, "
                + "IndexOutOfBoundsException;",
        "public int list(int session, int path) throws IllegalArgumentException, NoSuchElementException, "
                + "UnsupportedOperationException;",
        "public int look(int session, int path) throws IllegalArgumentException;",
        "public int size(int session, int path, int a) throws IllegalArgumentException, "
                + "IllegalStateException, NoSuchElementException, UnsupportedOperationException;",
        "public int crash();",
        "public boolean tear(int n) throws IllegalArgumentException;",
        "public int disk(int a, int b, int w) throws IllegalArgumentException;",
        "public int about(int a, int what);",
        "public int user(int session);",
        "public int fuse();");

    private int wrong = 0;

    public static void main(String[] args) throws ReflectiveOperationException {
        FaceTest test = new FaceTest();
        test.compareMembers();
        test.compareClass();
        System.exit(test.wrong == 0 ? 0 : 1);
    }

    private void compareMembers() throws ReflectiveOperationException {
        TreeSet<String> due = new TreeSet<>();
        for (String line : FACE) {
            due.add(withoutParameterNames(line));
        }
        TreeSet<String> found = new TreeSet<>();
        for (Member member : members()) {
            if (!Modifier.isPrivate(member.getModifiers()) && !member.isSynthetic()) {
                found.add(described(member));
            }
        }
        reportMissing("the class has not: ", due, found);
        reportMissing("the document has not: ", found, due);
    }

    private void compareClass() {
        if (Modifier.toString(LabelVault.class.getModifiers()).equals("public final")
                && LabelVault.class.getSuperclass() == Object.class && LabelVault.class.getInterfaces().length == 0) {
            return;
        }
        report("the class is not public, final and without a parent");
    }

    private static List<Member> members() {
        List<Member> members = new ArrayList<>();
        members.addAll(Arrays.asList(LabelVault.class.getDeclaredConstructors()));
        members.addAll(Arrays.asList(LabelVault.class.getDeclaredMethods()));
        members.addAll(Arrays.asList(LabelVault.class.getDeclaredFields()));
        return members;
    }

    private static String withoutParameterNames(String line) {
        return line.replaceAll("int \\w+([,)])", "int$1");
    }

    private static String described(Member member) throws ReflectiveOperationException {
        String modifiers = Modifier.toString(member.getModifiers()) + " ";
        if (member instanceof Method method) {
            return modifiers + method.getReturnType() + " " + method.getName() + behindName(method);
        }
        if (member instanceof Constructor<?> constructor) {
            return modifiers + constructor.getName() + behindName(constructor);
        }
        Field field = (Field) member;
        String value = Modifier.isStatic(field.getModifiers()) ? " = " + field.get(null) : "";
        return modifiers + field.getType() + " " + field.getName() + value + ";";
    }

    private static String behindName(Executable executable) {
        Class<?>[] exceptions = executable.getExceptionTypes();
        return "(" + namesOf(executable.getParameterTypes()) + ")"
                + (exceptions.length == 0 ? "" : " throws " + namesOf(exceptions)) + ";";
    }

    private static String namesOf(Class<?>[] types) {
        return Arrays.stream(types).map(Class::getSimpleName).collect(Collectors.joining(", "));
    }

    private void reportMissing(String what, TreeSet<String> all, TreeSet<String> some) {
        for (String member : all) {
            if (!some.contains(member)) {
                report(what + member);
            }
        }
    }

    private void report(String what) {
        wrong++;
        System.out.println(what);
    }
}
