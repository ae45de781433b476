import java.lang.reflect.InvocationTargetException;
import java.lang.reflect.Method;
import java.util.HashMap;
import java.util.Map;

/** Makes calls that are written as text, as "make(0, /1/2, 1)", and tells their answers as text. */
final class Calls {
    /** An object is used for at most so many calls. */
    static final int MOST = 512;

    private static final Map<String, Method> FACE = new HashMap<>();

    static {
        for (Method method : LabelVault.class.getMethods()) {
            if (method.getDeclaringClass() == LabelVault.class) {
                FACE.put(method.getName(), method);
            }
        }
    }

    private Calls() {
    }

    /** The answer: a number, true, false, or throws. and the name of an exception. */
    static String answer(LabelVault vault, String call) {
        Method method = FACE.get(nameOf(call));
        String inside = call.substring(call.indexOf('(') + 1, call.lastIndexOf(')')).trim();
        String[] words = inside.isEmpty() ? new String[0] : inside.split(",");
        Object[] arguments = new Object[words.length];
        for (int i = 0; i < words.length; i++) {
            arguments[i] = number(words[i].trim());
        }
        try {
            return String.valueOf(method.invoke(vault, arguments));
        } catch (InvocationTargetException e) {
            return "throws." + e.getCause().getClass().getSimpleName();
        } catch (ReflectiveOperationException e) {
            throw new IllegalStateException(call, e);
        }
    }

    static String nameOf(String call) {
        return call.substring(0, call.indexOf('('));
    }

    /** A number, the name of a constant, or a path as /1/2 (its names behind slashes). */
    static int number(String word) {
        switch (word) {
            case "NONE": return LabelVault.NONE;
            case "FULL": return LabelVault.FULL;
            case "CRASHED": return LabelVault.CRASHED;
            case "MAX": return Integer.MAX_VALUE;
            case "MIN": return Integer.MIN_VALUE;
            default: return word.startsWith("/") ? path(word) : Integer.parseInt(word);
        }
    }

    private static int path(String word) {
        int path = 0;
        for (String name : word.split("/")) {
            if (!name.isEmpty()) {
                path = path * 32 + Integer.parseInt(name);
            }
        }
        return path;
    }
}
