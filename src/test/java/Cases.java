import java.lang.reflect.InvocationTargetException;
import java.lang.reflect.Method;
import java.util.Map;
import java.util.TreeMap;

/**
 * Runs the cases of a test: its static methods whose names begin with "promise" and its number, in
 * the order of their names. The name of a case tells the promise and the case.
 */
final class Cases {
    private Cases() {
    }

    static void run(Class<?> test) throws IllegalAccessException {
        Map<String, Method> cases = new TreeMap<>();
        for (Method method : test.getDeclaredMethods()) {
            if (method.getName().startsWith("promise")) {
                cases.put(method.getName(), method);
            }
        }
        for (Map.Entry<String, Method> named : cases.entrySet()) {
            Check.begin(named.getKey());
            try {
                named.getValue().invoke(null);
            } catch (InvocationTargetException thrown) {
                Check.that("threw " + thrown.getCause(), false);
            }
        }
        Check.begin(test.getName());
        Check.that("there are cases", !cases.isEmpty());
        System.out.println(cases.size() + " cases");
        Check.end();
    }
}
