import java.lang.reflect.InvocationTargetException;
import java.lang.reflect.Method;
import java.util.HashMap;
import java.util.Map;

/** Calls written as texts, "setCast(0, 1, -1)", so that a test is rows of calls and answers. */
final class Calls {
    static final String RANGE = "throws IllegalArgumentException";
    static final String STATE = "throws IllegalStateException";
    static final String NO_SUCH = "throws NoSuchElementException";
    private static final Map<String, Method> METHODS = new HashMap<>();

    private Calls() {
    }

    /** Each call of the rows, followed by the answer that is due, one behind the other. */
    static void rows(String name, ShotListPlanner planner, String... rows) {
        for (int i = 0; i < rows.length; i += 2) {
            Checks.same(rows[i] + ", " + name, rows[i + 1], answer(planner, rows[i]));
        }
    }

    /** The answer of a call as a text; "least" and "most" stand for the ends of int. */
    static String answer(ShotListPlanner planner, String call) {
        int open = call.indexOf('(');
        Method method = methodOf(call.substring(0, open));
        String list = call.substring(open + 1, call.length() - 1);
        String[] parts = list.isEmpty() ? new String[0] : list.split(", ");
        Object[] arguments = new Object[parts.length];
        for (int i = 0; i < parts.length; i++) {
            arguments[i] = argument(parts[i]);
        }
        try {
            return String.valueOf(method.invoke(planner, arguments));
        } catch (InvocationTargetException e) {
            return "throws " + e.getCause().getClass().getSimpleName();
        } catch (IllegalAccessException e) {
            throw new AssertionError(e);
        }
    }

    private static Method methodOf(String name) {
        if (METHODS.isEmpty()) {
            for (Method method : ShotListPlanner.class.getMethods()) {
                METHODS.put(method.getName(), method);
            }
        }
        return METHODS.get(name);
    }

    private static Object argument(String part) {
        switch (part) {
            case "true":
                return true;
            case "false":
                return false;
            case "least":
                return Integer.MIN_VALUE;
            case "most":
                return Integer.MAX_VALUE;
            default:
                return Integer.valueOf(part);
        }
    }
}
