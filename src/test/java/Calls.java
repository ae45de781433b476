import java.lang.reflect.InvocationTargetException;
import java.lang.reflect.Method;

/** Makes calls that are written as text, as "make(0, /1/2, 1)", and tells their answers as text. */
final class Calls {
    private Calls() {
    }

    /** The answer: a number, true, false, or throws. and the name of an exception. */
    static String answer(LabelVault vault, String call) {
        int open = call.indexOf('(');
        String name = call.substring(0, open);
        String inside = call.substring(open + 1, call.lastIndexOf(')')).trim();
        String[] words = inside.isEmpty() ? new String[0] : inside.split(",");
        Object[] arguments = new Object[words.length];
        Class<?>[] types = new Class<?>[words.length];
        for (int i = 0; i < words.length; i++) {
            arguments[i] = number(words[i].trim());
            types[i] = int.class;
        }
        try {
            Method method = LabelVault.class.getMethod(name, types);
            return String.valueOf(method.invoke(vault, arguments));
        } catch (InvocationTargetException e) {
            return "throws." + e.getCause().getClass().getSimpleName();
        } catch (ReflectiveOperationException e) {
            throw new IllegalStateException(call, e);
        }
    }

    /** A number, the name of a constant, or a path as /1/2 (its names behind slashes). */
    static int number(String word) {
        switch (word) {
            case "NONE": return LabelVault.NONE;
            case "FULL": return LabelVault.FULL;
            case "CRASHED": return LabelVault.CRASHED;
            case "MAX": return Integer.MAX_VALUE;
            case "MIN": return Integer.MIN_VALUE;
            default: return word.startsWith("/") ? path(word) : Integer.parseInt(word);
        }
    }

    private static int path(String word) {
        int path = 0;
        for (String name : word.split("/")) {
            if (!name.isEmpty()) {
                path = path * 32 + Integer.parseInt(name);
            }
        }
        return path;
    }
}
