import java.lang.reflect.InvocationTargetException;
import java.lang.reflect.Method;
import java.lang.reflect.Modifier;
import java.util.Arrays;
import java.util.Comparator;

/** Counts the answers that are not the ones due, prints each, and ends a test's run. */
final class Checks {
    private String test = "";
    private int made = 0;
    private int wrong = 0;

    void due(String call, long got, long want) {
        made++;
        if (got != want) {
            report(call + " answered " + got + ", due is " + want);
        }
    }

    void due(String call, boolean got, boolean want) {
        due(call, got ? 1L : 0L, want ? 1L : 0L);
    }

    void due(String what, String got, String want) {
        made++;
        if (!got.equals(want)) {
            report(what + " is " + got + ", due is " + want);
        }
    }

    private void report(String fault) {
        wrong++;
        System.out.println(test + fault);
    }

    boolean isClean() {
        return wrong == 0;
    }

    /**
     * Runs every test of a class, that is, every static method whose name begins with "promise" or "terms".
     * One that throws, or that looks at no answer, has failed; the others run all the same.
     */
    void runAll(Class<?> tests) {
        Method[] methods = tests.getDeclaredMethods();
        Arrays.sort(methods, Comparator.comparing(Method::getName));
        int found = 0;
        for (Method method : methods) {
            if (method.getName().startsWith("promise") || method.getName().startsWith("terms")) {
                found++;
                runOne(method);
            }
        }
        test = "";
        due("there are tests", found > 0, true);
    }

    private void runOne(Method method) {
        test = method.getName() + ": ";
        int before = made;
        try {
            if (!Modifier.isStatic(method.getModifiers())) {
                report("is not static");
                return;
            }
            method.invoke(null);
        } catch (InvocationTargetException fault) {
            report("threw " + fault.getCause());
            return;
        } catch (IllegalAccessException fault) {
            report("is private, so it cannot be run");
            return;
        }
        if (made == before) {
            report("looked at no answer");
        }
    }

    void end() {
        System.out.println(made + " answers looked at, " + wrong + " not as due");
        if (wrong != 0 || made == 0) {
            System.exit(1);
        }
    }
}
