import java.lang.reflect.InvocationTargetException;
import java.lang.reflect.Method;
import java.util.Map;
import java.util.TreeMap;

/**
 * Runs the cases of a test: its static methods whose names begin with "promise" and its number, in
 * the order of their names. The name of a case tells the promise and the case. With arguments, only
 * the cases whose names begin with one of them.
 */
final class Cases {
    private Cases() {
    }

    static void run(Class<?> test, String... beginnings) throws IllegalAccessException {
        Map<String, Method> cases = new TreeMap<>();
        for (Method method : test.getDeclaredMethods()) {
            if (method.getName().startsWith("promise") && isAsked(method.getName(), beginnings)) {
                cases.put(method.getName(), method);
            }
        }
        for (Map.Entry<String, Method> named : cases.entrySet()) {
            Check.begin(named.getKey());
            try {
                named.getValue().invoke(null);
            } catch (InvocationTargetException thrown) {
                Check.that("threw " + thrown.getCause(), false);
            }
        }
        Check.begin(test.getName());
        Check.that("there are cases", !cases.isEmpty());
        System.out.println(cases.size() + " cases");
        Check.end();
    }

    private static boolean isAsked(String name, String[] beginnings) {
        boolean asked = beginnings.length == 0;
        for (String beginning : beginnings) {
            asked |= name.startsWith(beginning);
        }
        return asked;
    }
}
