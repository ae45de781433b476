import java.lang.reflect.Constructor;
import java.lang.reflect.Field;
import java.lang.reflect.Member;
import java.lang.reflect.Method;
import java.lang.reflect.Modifier;
import java.util.ArrayList;
import java.util.Arrays;
import java.util.List;
import java.util.TreeSet;

/** The class has the document's face, with its constants, and nothing else that is not private. */
public final class FaceTest {
    private static final String[] FACE = {
        "int area(int)", "boolean flows(int,int)", "boolean clear(int,int)", "int login(int,int)",
        "int logout(int)", "int make(int,int,int)", "int write(int,int,int,int)", "int truncate(int,int,int)",
        "int remove(int,int)", "int move(int,int,int)", "int read(int,int,int,int)", "int list(int,int)",
        "int look(int,int)", "int size(int,int,int)", "int crash()", "boolean tear(int)", "int disk(int,int,int)",
        "int about(int,int)", "int user(int)", "int fuse()", "LabelVault()", "NONE", "FULL", "CRASHED",
    };

    public static void main(String[] args) {
        int wrong = 0;
        TreeSet<String> due = new TreeSet<>(Arrays.asList(FACE));
        TreeSet<String> found = new TreeSet<>();
        for (Member member : members()) {
            if (!Modifier.isPrivate(member.getModifiers()) && !member.isSynthetic()) {
                found.add(described(member));
                if (!Modifier.isPublic(member.getModifiers())) {
                    wrong += report("not public: " + member);
                }
            }
        }
        if (!found.equals(due)) {
            wrong += report("the face is " + found + ", due is " + due);
        }
        if (!Modifier.isFinal(LabelVault.class.getModifiers())) {
            wrong += report("the class is not final");
        }
        if (LabelVault.NONE != -1 || LabelVault.FULL != -2 || LabelVault.CRASHED != -3) {
            wrong += report("a constant is wrong");
        }
        System.exit(wrong == 0 ? 0 : 1);
    }

    private static List<Member> members() {
        List<Member> members = new ArrayList<>();
        members.addAll(Arrays.asList(LabelVault.class.getDeclaredConstructors()));
        members.addAll(Arrays.asList(LabelVault.class.getDeclaredMethods()));
        members.addAll(Arrays.asList(LabelVault.class.getDeclaredFields()));
        return members;
    }

    private static String described(Member member) {
        if (member instanceof Method method) {
            return method.getReturnType() + " " + method.getName() + parameters(method.getParameterTypes());
        }
        if (member instanceof Constructor<?> constructor) {
            return constructor.getName() + parameters(constructor.getParameterTypes());
        }
        return ((Field) member).getName();
    }

    private static String parameters(Class<?>[] types) {
        List<String> names = new ArrayList<>();
        for (Class<?> type : types) {
            names.add(type.getName());
        }
        return "(" + String.join(",", names) + ")";
    }

    private static int report(String what) {
        System.out.println(what);
        return 1;
    }
}
